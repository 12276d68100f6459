import java.util.ArrayList;
import java.util.List;

/**
 * Which BELL, which ROW, and as it is now: a BELL of a tower that was rung answers as if it stood alone in a new tower,
 * and a ROUND as in a new tower of such heights, whatever the other bells and rows are.
 */
final class WhichSentences extends Scenes {
    /* Of every kind one; the first one is like none of the others. */
    private static final String BEFORE = "d2 t307 b911 g517 n403 h214 q618";
    /* How the rows are that a call does not name. */
    private static final int MISSING = 0, UNFIT = 1, OTHERS = 2;

    private WhichSentences() {
    }

    static void test(Sentences s) {
        scenes(s);
        oneBell(s);
        byTurns(s);
        heard(s);
        bySlips(s);
        rounds(s);
        marks(s);
        rowsNamed(s);
    }

    private interface OfBell {
        void of(BellBalance x, int i, int r, List<Long> told);
    }

    private interface OfRound {
        void of(BellBalance x, int r, List<Long> told);
    }

    /* Rung, so that no bell is where it began, and the damp is another one. */
    private static BellBalance rung() {
        BellBalance x = with(BEFORE, 2, 3, 6, 5, 6, 0);
        x.round(0);
        x.stroke(5, 1);
        x.stroke(3, 6);
        x.stroke(2, 0);
        x.round(0);
        x.damp(1);
        x.tear(0);
        return x;
    }

    /* Rung, and bell 4 broke its stay. */
    private static BellBalance rungOver() {
        BellBalance x = rung();
        for (int k = 0; k < 9; k++) {
            x.stroke(4, 6);
        }
        return x;
    }

    private static String item(BellBalance x, int i) {
        int height = bell(x, i, OVER) == 1 ? 20 : bell(x, i, HEIGHT);
        return LETTERS.charAt(bell(x, i, KIND)) + "" + bell(x, i, WEIGHT) + height / 10 + height % 10;
    }

    /* The one bell alone, new, as it is in the tower. */
    private static BellBalance alone(BellBalance x, int i) {
        return with("d" + x.count(DAMP) + item(x, i));
    }

    /* A new tower of such bells. */
    private static BellBalance anew(BellBalance x) {
        StringBuilder text = new StringBuilder("d" + x.count(DAMP));
        for (int i = 0; i < x.count(BELLS); i++) {
            text.append(item(x, i));
        }
        BellBalance y = with(text.toString());
        for (int i = 0; i < x.count(BELLS); i++) {
            if (bell(x, i, OVER) == 1) {
                y.stroke(i, 6);
            }
        }
        return y;
    }

    /* All rows but one are missing, or unfit for any call, or fit for many a call. */
    private static void others(BellBalance x, int r, int how) {
        for (int k = 0; k < 6; k++) {
            if (k == r || how == MISSING) {
                continue;
            }
            if (how == UNFIT) {
                lay(x, k, 9, 9, 9);
            } else {
                lay(x, k, 0, NONE, 6, NONE, 2, NONE);
            }
        }
    }

    private static void rowTold(BellBalance x, int r, List<Long> told) {
        for (int i = 0; x.at(r, i) == 1; i++) {
            told.add((long) x.asked());
        }
    }

    private static void scenes(Sentences s) {
        s.says(15, "A STROKE of a BELL: its HEIGHT then.");
        int[] starts = {7, 11, 17, 3, 14, 18};
        for (int i = 0; i < 6; i++) {
            int start = starts[i];
            s.is("bell " + i + " is not where it began", bell(rung(), i, HEIGHT) != start ? 1 : 0, 1);
            s.is("bell " + i + " is whole", bell(rung(), i, OVER), 0);
            s.is("bell " + i + " is OVER", bell(rungOver(), i, OVER), i == 4 ? 1 : 0);
        }
        s.is("the damp", rung().count(DAMP), 1);
        s.is("all can be HEARD", rung().even(0) >= 0 ? 1 : 0, 1);
        s.is("all that are not OVER can be HEARD", rungOver().even(0) >= 0 ? 1 : 0, 1);
    }

    /* Of each bell, by each row, whatever the other rows are. */
    private static void ofEach(Sentences s, OfBell call) {
        for (int i = 0; i < 6; i++) {
            for (int r = 0; r < 6; r++) {
                List<Long> got = new ArrayList<>();
                List<Long> due = new ArrayList<>();
                BellBalance x = rung();
                others(x, r, (i + r) % 3);
                call.of(x, i, r, got);
                call.of(alone(rung(), i), 0, 0, due);
                s.alike("bell " + i + ", row " + r, got, due);
            }
        }
    }

    private static void oneBell(Sentences s) {
        s.says(21, "In how many tenths a BELL would STRIKE by a PULL.");
        ofEach(s, (x, i, r, told) -> {
            for (int pull = 0; pull <= 6; pull++) {
                told.add((long) x.strikes(i, pull));
            }
        });
        s.says(22, "PULLS (bits) by which it would STAND; by which its STAY would break by asked().");
        ofEach(s, (x, i, r, told) -> told.addAll(List.of((long) x.stands(i), (long) x.asked())));
        s.says(23, "The fewest STROKES (0: it does now) by which it STANDS, its STAY whole; the first such row of PULLS comes to a ROW (anew).");
        ofEach(s, (x, i, r, told) -> {
            told.add((long) x.raise(i, r));
            rowTold(x, r, told);
        });
        s.says(24, "How many rows of n (0 .. 12) PULLS leave it STANDING");
        ofEach(s, (x, i, r, told) -> {
            for (int n = 0; n <= 12; n++) {
                told.addAll(List.of((long) x.ways(i, n), x.upper(), x.lower()));
            }
        });
        s.says(25, "The least sum of n (0 .. 12) PULLS that leave it at a HEIGHT (0 .. 20), its STAY whole; the first such row comes to a ROW (anew).");
        ofEach(s, (x, i, r, told) -> {
            for (int height = 6; height <= 20; height += 2) {
                told.add((long) x.arms(i, 4, height, r));
                rowTold(x, r, told);
            }
        });
        s.says(26, "The PULL (the least) by which it STRIKES nearest to so many tenths (0 .. 40) behind it; the difference by asked().");
        ofEach(s, (x, i, r, told) -> {
            for (int tenths = 10; tenths <= 25; tenths++) {
                told.addAll(List.of((long) x.hold(i, tenths), (long) x.asked()));
            }
        });
        s.says(27, "In how many STROKES without a PULL (PULLS of 0) it STRIKES no more");
        ofEach(s, (x, i, r, told) -> told.add((long) x.drops(i)));
        s.says(28, "The fewest STROKES behind which it STRIKES (HEIGHT 5 or more; 0: now), its STAY whole.");
        ofEach(s, (x, i, r, told) -> told.add((long) x.back(i)));
        s.is("one that has dropped", dropped().back(1), 1);
        s.is("the one ahead of it", dropped().back(0), 0);
        s.is(() -> with("d0 b110 h100"), "a heavy one behind a plain one", 3, x -> x.back(1));
        s.is(() -> with("d0 h110 b100"), "a plain one behind a heavy one", 1, x -> x.back(1));
    }

    /* The second one strikes no more. */
    private static BellBalance dropped() {
        BellBalance x = with("d0 b110 n106");
        x.stroke(1, 0);
        x.stroke(1, 0);
        return x;
    }

    private static void byTurns(Sentences s) {
        s.says(35, "By turns of one BELL");
        ofEach(s, (x, i, r, told) -> {
            for (int n = 0; n <= 3; n++) {
                told.add((long) x.game(i, n));
            }
        });
        s.is("won by the second one as it is now", wonNow().game(1, 1), 1);
        s.is("not by the first one", wonNow().game(0, 1), 0);
        s.says(36, "The PULL that the first one does first so (the least by which it wins).");
        ofEach(s, (x, i, r, told) -> {
            for (int n = 1; n <= 3; n++) {
                told.add((long) x.first(i, n));
            }
        });
        s.is("of the second one as it is now", wonNow().first(1, 1), 0);
        s.is("of the first one", wonNow().first(0, 1), NONE);
    }

    /* The second one stands by now. */
    private static BellBalance wonNow() {
        BellBalance x = with("d0 b110 q114");
        x.stroke(1, 6);
        return x;
    }

    private static void heard(Sentences s) {
        s.says(37, "one STROKE behind the other, from as it is now: of which KINDS (bits) it can be.");
        ofEach(s, (x, i, r, told) -> pairs(x, i, r, told, () -> x.kinds(i, r)));
        s.says(38, "How DAMP (bits 0 .. 3) it can be, so.");
        ofEach(s, (x, i, r, told) -> pairs(x, i, r, told, () -> x.damps(i, r)));
        s.says(39, "From which HEIGHTS (bits 0 .. 20) it can be, so.");
        ofEach(s, (x, i, r, told) -> pairs(x, i, r, told, () -> x.heights(i, r)));
        s.says(40, "by PULLS in a ROW, of one BELL, two ringers in turn (0, 1, 0, ..): the place at which it breaks; who (0, 1) by asked().");
        ofEach(s, (x, i, r, told) -> {
            lay(x, r, 1, 6, 0, 6, 2, 6, 6, 6, 6, 6, 6, 6, 6);
            told.addAll(List.of((long) x.broke(i, r), (long) x.asked()));
        });
    }

    private interface Answer {
        int get();
    }

    /* What is heard of a first pull and a second one, and what would not be. */
    private static void pairs(BellBalance x, int i, int r, List<Long> told, Answer answer) {
        int deeds = x.count(DEEDS);
        int first = x.strikes(i, 2);
        x.stroke(i, 2);
        int second = x.strikes(i, 1);
        x.undo(deeds);
        lay(x, r, 2, first, 1, second);
        told.add((long) answer.get());
        lay(x, r, 2, first + 1);
        told.add((long) answer.get());
        lay(x, r, 0, NONE);
        told.add((long) answer.get());
    }

    private static void bySlips(Sentences s) {
        s.says(41, "Chances that the STAY is whole behind n (0 .. 8) STROKES of one PULL (0 .. 6) by SLIPS of p (0 .. 12): 1.");
        ofEach(s, (x, i, r, told) -> {
            for (int pull = 0; pull <= 6; pull++) {
                told.addAll(List.of((long) x.odds(i, pull, 5, 7), x.upper(), x.lower()));
            }
        });
        s.says(42, "The mean of its HEIGHT then (OVER: 0): 1.");
        ofEach(s, (x, i, r, told) -> {
            for (int pull = 0; pull <= 6; pull++) {
                told.addAll(List.of((long) x.mid(i, pull, 5, 7), x.upper(), x.lower()));
            }
        });
    }

    /* By each row, whatever the other rows are, with all bells and with one that is OVER. */
    private static void ofRounds(Sentences s, OfRound call) {
        for (int over = 0; over <= 1; over++) {
            for (int r = 0; r < 6; r++) {
                for (int how = MISSING; how <= OTHERS; how++) {
                    List<Long> got = new ArrayList<>();
                    List<Long> due = new ArrayList<>();
                    BellBalance x = over == 1 ? rungOver() : rung();
                    BellBalance y = anew(over == 1 ? rungOver() : rung());
                    others(x, r, how);
                    call.of(x, r, got);
                    call.of(y, 0, due);
                    s.alike("row " + r + ", others " + how + ", " + over + " OVER", got, due);
                }
            }
        }
    }

    private static void rounds(Sentences s) {
        s.says(16, "A ROUND by PULLS in a ROW: BELLS that are HEARD (bits).");
        ofRounds(s, (x, r, told) -> {
            lay(x, r, 3, 6, 2, 0, 5, 1);
            told.add((long) x.round(r));
            for (int i = 0; i < 6; i++) {
                told.add((long) bell(x, i, HEIGHT));
            }
        });
        s.says(29, "The ERROR of a ROUND by PULLS in a ROW; BELLS that are HEARD by asked() (bits).");
        ofRounds(s, (x, r, told) -> {
            lay(x, r, 3, 6, 2, 0, 5, 1);
            told.addAll(List.of((long) x.error(r), (long) x.asked()));
        });
        s.says(30, "Who is HEARD in a place (0, 1, ..) of that ROUND; when by asked().");
        ofRounds(s, (x, r, told) -> {
            lay(x, r, 3, 6, 2, 0, 5, 1);
            for (int place = 0; place <= 5; place++) {
                told.addAll(List.of((long) x.heard(r, place), (long) x.asked()));
            }
        });
        s.says(31, "The least ERROR of ROUNDS by which all BELLS that are not OVER are HEARD, and none comes to be");
        ofRounds(s, (x, r, told) -> {
            told.add((long) x.even(r));
            rowTold(x, r, told);
        });
        s.says(32, "The first such ROUND in which they are HEARD by an order in a ROW (all that are not OVER, each once) comes to another ROW (anew): its ERROR.");
        ofRounds(s, (x, r, told) -> {
            int to = (r + 2) % 6;
            order(x, r);
            told.add((long) x.change(r, to));
            rowTold(x, to, told);
        });
        s.says(33, "In how many unlike orders they can be HEARD in such a ROUND.");
        ofRounds(s, (x, r, told) -> told.add((long) x.orders()));
        s.no(() -> with("d0h100"), "one bell, which can't be HEARD", 0, x -> x.orders());
        s.no(() -> with("d0h100b110"), "one of two can't be HEARD", 0, x -> x.orders());
        s.no(() -> with("d0b110"), "one bell, which can", 1, x -> x.orders());
        s.says(34, "Who is late: of PULLS in a ROW, that are HEARD, the one whose gap to the one ahead is greatest (the first HEARD); that gap by asked().");
        ofRounds(s, (x, r, told) -> {
            lay(x, r, 3, 6, 2, 0, 5, 1);
            told.addAll(List.of((long) x.late(r), (long) x.asked()));
        });
        s.says(43, "n (1 .. 20) ROUNDS truly by LOTS of a seed");
        ofRounds(s, (x, r, told) -> {
            told.add((long) x.lots(3, 4711));
            for (int i = 0; i < 6; i++) {
                told.add((long) bell(x, i, HEIGHT));
            }
            told.add((long) x.lots(3, 4711));
            for (int i = 0; i < 6; i++) {
                told.add((long) bell(x, i, HEIGHT));
            }
        });
    }

    /* An order in which all that are not OVER can be HEARD: that of their evenest round. */
    private static void order(BellBalance x, int r) {
        x.even(r);
        int[] order = new int[x.count(BELLS) - x.count(OVERS)];
        for (int place = 0; place < order.length; place++) {
            order[place] = x.heard(r, place);
        }
        lay(x, r, order);
    }

    private static void marks(Sentences s) {
        s.says(13, "What a BELL that IS of a KIND tells:");
        for (int over = 0; over <= 1; over++) {
            BellBalance x = over == 1 ? rungOver() : rung();
            BellBalance y = anew(over == 1 ? rungOver() : rung());
            for (int i = 0; i < 6; i++) {
                for (int kind = 1; kind <= 5; kind++) {
                    s.is("bell " + i + ", kind " + kind, x.mark(i, kind), y.mark(i, kind));
                }
            }
        }
    }

    /* The row that is named is refused, though all others are good. */
    private static void named(Sentences s, String what, int[] good, OfRow call) {
        for (int row = 0; row < 6; row++) {
            int r = row;
            s.finds(() -> goodBut(r, good), what + ", row " + r + " missing", NOTHING, x -> call.on(x, r));
        }
    }

    private static void unfit(Sentences s, String what, int finding, int[] good, int[] bad, OfRow call) {
        for (int row = 0; row < 6; row++) {
            int r = row;
            s.finds(() -> laid(goodBut(r, good), r, bad), what + ", row " + r + " alone is not fit", finding, x -> call.on(x, r));
        }
    }

    private interface OfRow {
        long on(BellBalance x, int r);
    }

    private static BellBalance goodBut(int r, int... good) {
        BellBalance x = rung();
        for (int k = 0; k < 6; k++) {
            if (k != r) {
                lay(x, k, good);
            }
        }
        return x;
    }

    private static BellBalance laid(BellBalance x, int r, int... v) {
        lay(x, r, v);
        return x;
    }

    private static void rowsNamed(Sentences s) {
        int[] pulls = {1, 1, 1, 1, 1, 1};
        int[] order = {0, 1, 2, 3, 4, 5};
        OfRow[] ofPulls = {(x, r) -> x.round(r), (x, r) -> x.error(r), (x, r) -> x.heard(r, 0), (x, r) -> x.late(r)};
        int[] promises = {16, 29, 30, 34};
        String[] words = {"NOTHING; SIZE: not as many; UNLIKE: no PULL;", "NOTHING; SIZE; UNLIKE.", "NOTHING; SIZE; UNLIKE.", "NOTHING; SIZE; UNLIKE."};
        for (int k = 0; k < ofPulls.length; k++) {
            s.says(promises[k], words[k]);
            named(s, "missing", pulls, ofPulls[k]);
            unfit(s, "too few", SIZE, pulls, new int[] {1, 1, 1, 1, 1}, ofPulls[k]);
            unfit(s, "no pull", UNLIKE, pulls, new int[] {1, 1, 1, 1, 1, 7}, ofPulls[k]);
        }
        s.says(32, "NOTHING; SIZE; UNLIKE.");
        OfRow change = (x, r) -> x.change(r, (r + 1) % 6);
        named(s, "missing", order, change);
        unfit(s, "too few", SIZE, order, new int[] {0, 1, 2, 3, 4}, change);
        unfit(s, "one twice", UNLIKE, order, new int[] {0, 1, 2, 3, 4, 0}, change);
        OfRow[] ofPairs = {(x, r) -> x.kinds(1, r), (x, r) -> x.damps(1, r), (x, r) -> x.heights(1, r)};
        String[] ofTold = {"NOTHING; SIZE: not by pairs; UNLIKE: no PULL.", "NOTHING; SIZE; UNLIKE.", "NOTHING; SIZE; UNLIKE."};
        for (int k = 0; k < ofPairs.length; k++) {
            s.says(37 + k, ofTold[k]);
            named(s, "missing", pulls, ofPairs[k]);
            unfit(s, "not by pairs", SIZE, pulls, new int[] {1, 1, 1}, ofPairs[k]);
            unfit(s, "no pull", UNLIKE, pulls, new int[] {1, 1, 7, 1}, ofPairs[k]);
        }
        s.says(40, "NOTHING; UNLIKE.");
        named(s, "missing", pulls, (x, r) -> x.broke(1, r));
        unfit(s, "no pull", UNLIKE, pulls, new int[] {0, 7}, (x, r) -> x.broke(1, r));
    }
}
