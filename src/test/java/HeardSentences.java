/** Sentences of promises 35 to 43: by turns, what was heard, by slips, by lots. */
final class HeardSentences extends Scenes {
    private HeardSentences() {
    }

    static void test(Sentences s) {
        game35(s);
        first36(s);
        kinds37(s);
        damps38(s);
        heights39(s);
        broke40(s);
        odds41(s);
        mid42(s);
        lots43(s);
    }

    private interface OfBell {
        int of(BellBalance x, int i);
    }

    private interface OfBellByRow {
        int of(BellBalance x, int i, int r);
    }

    private static void badBells(Sentences s, OfBell call) {
        for (int i : new int[] {-1, 6, MIN, MAX}) {
            s.no(Scenes::rich, "bell " + i, BAD, x -> call.of(x, i));
        }
        s.no(() -> with("d0b110b110"), "the bell behind the last", BAD, x -> call.of(x, 2));
        s.no(BellBalance::new, "no bells", BAD, x -> call.of(x, 0));
    }

    /* A number that is not as told: BAD, also of a bell that is OVER. */
    private static void bad(Sentences s, String what, OfBell call) {
        s.no(Scenes::rich, what, BAD, x -> call.of(x, 0));
        s.no(Scenes::rich, what + ", ahead of STATE", BAD, x -> call.of(x, 2));
    }

    private static void game35(Sentences s) {
        s.says(35, "By turns of one BELL: one PULLS 0 .. 6, who wants it to STAND at the end, the other one PULLS 0 .. 3, who does not");
        s.is(() -> with("d0q117"), "quick at 17: by 3 (or 4) it stands, and the other one can not but let it, or break", 1, x -> x.game(0, 1));
        s.is(() -> with("d0q114"), "quick at 14: by 6", 1, x -> x.game(0, 1));
        s.is(() -> with("d0q113"), "quick at 13: 19 at most, the other one pulls 0", 0, x -> x.game(0, 1));
        s.is(() -> with("d0b120"), "plain at 20: the other one pulls 0", 0, x -> x.game(0, 1));
        s.is(() -> with("d0h120"), "heavy at 20: the other one pulls 0", 0, x -> x.game(0, 1));

        s.says(35, "n (0 .. 3) times each, the first one begins");
        s.is(() -> with("d0b120"), "0 times, standing", 1, x -> x.game(0, 0));
        s.is(() -> with("d0b119"), "0 times, not standing", 0, x -> x.game(0, 0));
        s.is(() -> with("d0q103"), "twice", 0, x -> x.game(0, 2));
        s.is(() -> with("d0q103"), "three times: 8, 8 to 11, 14, 14 to 17, 20", 1, x -> x.game(0, 3));
        s.is(() -> with("d0q102"), "three times, from 2: 8 at most, then 14, then 20", 1, x -> x.game(0, 3));
        s.is(() -> with("d0q101"), "three times, from 1: 19 at most", 0, x -> x.game(0, 3));
        s.is(() -> with("d0q108"), "twice, from 8", 1, x -> x.game(0, 2));
        s.is(() -> with("d0q107"), "twice, from 7", 0, x -> x.game(0, 2));

        s.says(35, "who breaks the STAY has lost.");
        s.is(() -> with("d0q120"), "quick at 20: the other one can but let it stand, or break it by 2, 3", 1, x -> x.game(0, 1));
        s.is(() -> with("d0q120"), "three times", 1, x -> x.game(0, 3));
        for (int kind = 0; kind < 6; kind++) {
            for (int height = 0; height <= 20; height++) {
                for (int n = 0; n <= 3; n++) {
                    boolean wins = wins(kind, height, n, true);
                    s.is("kind " + kind + " at " + height + ", " + n + " times", with(0, kind, 1, height).game(0, n), wins ? 1 : 0);
                }
            }
        }

        s.says(35, "Whether the first one wins (1, 0), both playing best.");
        s.aside(Scenes::rich, "does not, nothing changes", 0, x -> x.game(0, 3));
        s.is(() -> with("d0t114"), "does", 1, x -> x.game(0, 1));

        s.says(35, "BAD;");
        badBells(s, (x, i) -> x.game(i, 1));
        for (int n : new int[] {-1, 4, MIN, MAX}) {
            bad(s, "n " + n, (x, i) -> x.game(i, n));
        }

        s.says(35, "STATE: it is OVER.");
        s.no(Scenes::rich, "over", STATE, x -> x.game(2, 1));
        s.no(Scenes::rich, "over, 0 times", STATE, x -> x.game(2, 0));
    }

    /* The whole tree of pulls, by the words of the promise. */
    private static boolean wins(int kind, int height, int n, boolean firstOne) {
        if (n == 0) {
            return height == 20;
        }
        boolean wins = !firstOne;
        for (int pull = 0; pull <= (firstOne ? 6 : 3); pull++) {
            int then = then(kind, height, pull);
            boolean by = then >= 22 ? !firstOne : wins(kind, then, firstOne ? n : n - 1, !firstOne);
            wins = firstOne ? wins || by : wins && by;
        }
        return wins;
    }

    private static void first36(Sentences s) {
        s.says(36, "The PULL that the first one does first so (the least by which it wins).");
        s.is(() -> with("d0q120"), "0", 0, x -> x.first(0, 1));
        s.is(() -> with("d0q118"), "2, not 3", 2, x -> x.first(0, 1));
        s.is(() -> with("d0q114"), "6", 6, x -> x.first(0, 1));
        s.is(() -> with("d0q103"), "5", 5, x -> x.first(0, 3));
        s.is(HeardSentences::behindAnother, "asked of another kind just before", NONE, x -> x.first(1, 1));
        s.aside(() -> with("d0q118"), "nothing changes", 2, x -> x.first(0, 1));
        for (int kind = 0; kind < 6; kind++) {
            for (int height = 0; height <= 20; height++) {
                for (int n = 1; n <= 3; n++) {
                    s.is("kind " + kind + " at " + height + ", " + n + " times", with(0, kind, 1, height).first(0, n), firstOf(kind, height, n));
                }
            }
        }

        s.says(36, "NONE: it does not.");
        s.no(() -> with("d0q113"), "19 at most", NONE, x -> x.first(0, 1));
        s.no(() -> with("d0b120"), "plain at 20", NONE, x -> x.first(0, 1));

        s.says(36, "BAD: also n 0;");
        bad(s, "n 0", (x, i) -> x.first(i, 0));
        for (int n : new int[] {-1, 4, MIN, MAX}) {
            bad(s, "n " + n, (x, i) -> x.first(i, n));
        }
        badBells(s, (x, i) -> x.first(i, 1));

        s.says(36, "STATE.");
        s.no(Scenes::rich, "over", STATE, x -> x.first(2, 1));
    }

    private static int firstOf(int kind, int height, int n) {
        for (int pull = 0; pull <= 6; pull++) {
            int then = then(kind, height, pull);
            if (then < 22 && wins(kind, then, n, false)) {
                return pull;
            }
        }
        return NONE;
    }

    private static BellBalance behindAnother() {
        BellBalance x = with("d0q120b120");
        x.first(0, 1);
        return x;
    }

    private static final String TOLD_ORDER = "BAD; STATE; NOTHING; SIZE; UNLIKE. (In this order.)";

    /* What refuses pairs in a row, for kinds(), damps(), heights(). */
    private static void toldRefusals(Sentences s, OfBellByRow call) {
        badBells(s, (x, i) -> call.of(x, i, 2));
        for (int r : new int[] {-1, 6, MIN, MAX}) {
            bad(s, "row " + r, (x, i) -> call.of(x, i, r));
        }
        s.no(Scenes::rich, "over, though the row is good", STATE, x -> call.of(x, 2, 2));
        s.no(Scenes::rich, "STATE ahead of NOTHING", STATE, x -> call.of(x, 2, 3));
        s.no(Scenes::rich, "STATE ahead of SIZE", STATE, x -> call.of(x, 2, 1));
        s.finds(Scenes::rich, "missing", NOTHING, x -> call.of(x, 0, 3));
        s.finds(() -> with("d0b110", 1), "one alone is no pair", SIZE, x -> call.of(x, 0, 0));
        s.finds(() -> with("d0b110", new int[39]), "39 are no pairs", SIZE, x -> call.of(x, 0, 0));
        s.finds(() -> with("d0b110", 7, 15, 1), "SIZE ahead of UNLIKE", SIZE, x -> call.of(x, 0, 0));
        for (int pull : new int[] {-1, 7, NONE, MIN, MAX}) {
            s.finds(() -> with("d0b110", pull, 15), "pull " + pull, UNLIKE, x -> call.of(x, 0, 0));
            s.finds(() -> with("d0b110", 1, 15, pull, 15), "pull " + pull + " in the second pair", UNLIKE, x -> call.of(x, 0, 0));
            s.finds(() -> with("d0b110", 1, 99, pull, 15), "pull " + pull + " behind what can not be", UNLIKE, x -> call.of(x, 0, 0));
        }
    }

    private static void kinds37(Sentences s) {
        s.says(37, "Heard of a BELL in a ROW of pairs (none, too;");
        s.is(() -> with("d0b110", new int[0]), "none: all", 63, x -> x.kinds(0, 0));
        s.is(HeardSentences::twenty, "20 pairs: QUICK and TREBLE do not sink, the others do", 1 << QUICK, x -> x.kinds(0, 0));

        s.says(37, "a PULL 0 .. 6, in how many tenths it STRUCK behind it, NONE: it did not)");
        // at 12: 10 + 6 + 2 - 1 = 17 (plain), quick at 13 17; heavy at 10 16, great 18, blind 18, treble 16
        s.is(() -> with("d1b610", 3, 17), "17", 1 << BELL | 1 << QUICK, x -> x.kinds(0, 0));
        s.is(() -> with("d1b610", 3, 18), "18", 1 << BLIND | 1 << GREAT, x -> x.kinds(0, 0));
        s.is(() -> with("d1b610", 3, 16), "16", 1 << HEAVY | 1 << TREBLE, x -> x.kinds(0, 0));
        s.is(() -> with("d1b610", 3, 15), "15", 0, x -> x.kinds(0, 0));
        s.is(() -> with("d1b610", 3, NONE), "it did not", 0, x -> x.kinds(0, 0));
        s.is(() -> with("d0b104", 1, NONE), "4: all but QUICK, TREBLE", 1 << BELL | 1 << HEAVY | 1 << BLIND | 1 << GREAT, x -> x.kinds(0, 0));
        for (int tenths : new int[] {-1, 0, MIN, MAX}) {
            s.is(() -> with("d0b110", 1, tenths), "never in " + tenths, 0, x -> x.kinds(0, 0));
        }

        s.says(37, "one STROKE behind the other, from as it is now: of which KINDS (bits) it can be.");
        s.is(() -> with("d0b110", 1, 15, 1, 15), "at 10, at 10; quick at 11 15, at 12 16", 1 << BELL, x -> x.kinds(0, 0));
        s.is(() -> with("d0q110", 1, 15, 1, 16), "at 11, at 12", 1 << QUICK, x -> x.kinds(0, 0));
        BellBalance y = with("d0b110", 1, 17);
        y.stroke(0, 5);
        s.is("from 14, where it is now", y.kinds(0, 0), 1 << BELL | 1 << QUICK);
        s.aside(Scenes::rich, "nothing changes", 63, x -> x.kinds(0, 2));

        s.says(37, "BAD; STATE: it is OVER; NOTHING; SIZE: not by pairs; UNLIKE: no PULL. (In this order.");
        toldRefusals(s, (x, i, r) -> x.kinds(i, r));

        s.says(37, "A STROKE of one that is OVER is not heard.)");
        s.is(() -> with("d0q119", 3, NONE), "the stroke that breaks it is not", 1 << QUICK | 1 << TREBLE, x -> x.kinds(0, 0));
        s.is(() -> with("d0q119", 3, NONE, 0, NONE), "nor one behind", 1 << QUICK | 1 << TREBLE, x -> x.kinds(0, 0));
        s.is(() -> with("d0q119", 3, NONE, 6, NONE, 6, NONE), "nor two, though it would have come to 5", 1 << QUICK | 1 << TREBLE, x -> x.kinds(0, 0));
        s.is(() -> with("d0q119", 3, NONE, 6, 13), "13 was none of it", 0, x -> x.kinds(0, 0));
    }

    /* 20 pairs of a quick one at 10. */
    private static BellBalance twenty() {
        int[] pairs = new int[40];
        for (int k = 0; k < 20; k++) {
            pairs[2 * k + 1] = 15;
        }
        return with("d0b110", pairs);
    }

    private static void damps38(Sentences s) {
        s.says(38, "How DAMP (bits 0 .. 3) it can be, so.");
        s.is(() -> with("d0b110", new int[0]), "none told: any", 15, x -> x.damps(0, 0));
        for (int damp = 0; damp <= 3; damp++) {
            int d = damp;
            s.is(() -> with("d1b110", 1, 15 - d), "by " + d, 1 << d, x -> x.damps(0, 0));
        }
        s.is(() -> with("d1b110", 1, 16), "by none", 0, x -> x.damps(0, 0));
        s.is(() -> with("d1b110", 1, 11), "by 4, which is none", 0, x -> x.damps(0, 0));
        s.is(() -> with("d1b110", 1, 14, 1, 13), "unlike ones", 0, x -> x.damps(0, 0));
        s.is(() -> with("d1b104", 1, NONE), "not heard: any", 15, x -> x.damps(0, 0));
        s.is(() -> with("d1q120", 2, NONE, 0, NONE), "broken: any", 15, x -> x.damps(0, 0));
        s.is(() -> with("d1q120", 2, NONE, 0, 19), "broken is not heard", 0, x -> x.damps(0, 0));
        s.is(() -> with("d1g910", 4, 18, 4, 18), "great at 11, at 12", 0, x -> x.damps(0, 0));
        s.is(() -> with("d1g910", 4, 18, 4, 19), "great at 11 20 - 2, at 12 21 - 2", 4, x -> x.damps(0, 0));
        s.aside(Scenes::rich, "nothing changes", 15, x -> x.damps(0, 2));

        s.says(38, TOLD_ORDER);
        toldRefusals(s, (x, i, r) -> x.damps(i, r));
    }

    private static void heights39(Sentences s) {
        s.says(39, "From which HEIGHTS (bits 0 .. 20) it can be, so.");
        s.is(() -> with("d0b110", new int[0]), "none told: any", (1 << 21) - 1, x -> x.heights(0, 0));
        s.is(() -> with("d1b610", 3, 17), "at 12, 13 behind it", 1 << 10 | 1 << 11, x -> x.heights(0, 0));
        s.is(() -> with("d0b110", 1, NONE), "too low", 1 | 2 | 4 | 8 | 16, x -> x.heights(0, 0));
        s.is(() -> with("d0b110", 3, NONE), "too low, or broken from 20", 1 | 2 | 4 | 1 << 20, x -> x.heights(0, 0));
        s.is(() -> with("d0q110", 2, NONE), "quick: too low, or broken from 20", 1 | 2 | 4 | 1 << 20, x -> x.heights(0, 0));
        s.is(() -> with("d0b110", 6, 12), "plain, 5 behind it", 1, x -> x.heights(0, 0));
        s.is(() -> with("d0b110", 1, 20), "plain, 20 behind it", 1 << 20, x -> x.heights(0, 0));
        s.is(() -> with("d0b110", 2, 20), "plain, 20 or 21 behind it", 1 << 19 | 1 << 20, x -> x.heights(0, 0));
        s.is(() -> with("d0b110", 0, NONE, 0, NONE, 6, 12), "sunk to 0 at least: 0, 1, 2", 7, x -> x.heights(0, 0));
        s.is(() -> with("d0b110", 1, 21), "never", 0, x -> x.heights(0, 0));
        s.aside(Scenes::rich, "nothing changes", (1 << 21) - 1, x -> x.heights(0, 2));

        s.says(39, TOLD_ORDER);
        toldRefusals(s, (x, i, r) -> x.heights(i, r));
    }

    private static void broke40(Sentences s) {
        s.says(40, "Who broke the STAY: by PULLS in a ROW, of one BELL, two ringers in turn (0, 1, 0, ..): the place at which it breaks; who (0, 1) by asked().");
        s.tells(() -> with("d0q120", 2), "the first pull", 0, 0, x -> x.broke(0, 0));
        s.tells(() -> with("d0q120", 1, 2), "the second pull", 1, 1, x -> x.broke(0, 0));
        s.tells(() -> with("d0b100", 6, 6, 6, 6, 6, 6), "5 10 15 20, then", 4, 0, x -> x.broke(0, 0));
        s.tells(() -> with("d0q103", 6, 6, 6, 6, 6), "9 15 20, then", 3, 1, x -> x.broke(0, 0));
        s.tells(() -> with("d0q120", 1, 1, 1, 6, 6), "the first break, not a later pull", 3, 1, x -> x.broke(0, 0));
        int[] forty = new int[40];
        forty[39] = 6;
        s.tells(() -> with("d0q120", forty), "the 40th pull", 39, 1, x -> x.broke(0, 0));
        s.aside(() -> with("d0q120", 1, 2), "nothing changes", 1, x -> x.broke(0, 0));

        s.says(40, "NONE: it does not.");
        s.no(() -> with("d0q120", new int[0]), "no pulls", NONE, x -> x.broke(0, 0));
        s.no(() -> with("d0q120", 1, 1, 1), "at 21", NONE, x -> x.broke(0, 0));
        s.no(() -> with("d0g104", 6, 6, 6, 6, 6, 6), "heavy", NONE, x -> x.broke(0, 0));
        s.no(() -> with("d0q120", new int[40]), "40 pulls", NONE, x -> x.broke(0, 0));
        s.no(HeardSentences::shortened, "what the row held behind its end before is none of it", NONE, x -> x.broke(0, 0));

        s.says(40, "BAD; STATE: it is OVER; NOTHING; UNLIKE. (In this order.)");
        badBells(s, (x, i) -> x.broke(i, 0));
        for (int r : new int[] {-1, 6, MIN, MAX}) {
            bad(s, "row " + r, (x, i) -> x.broke(i, r));
        }
        s.no(Scenes::rich, "over", STATE, x -> x.broke(2, 0));
        s.no(Scenes::rich, "STATE ahead of NOTHING", STATE, x -> x.broke(2, 3));
        s.no(Scenes::rich, "STATE ahead of UNLIKE", STATE, x -> x.broke(2, 1));
        s.finds(Scenes::rich, "missing", NOTHING, x -> x.broke(0, 3));
        for (int pull : new int[] {-1, 7, MIN, MAX}) {
            s.finds(() -> with("d0q110", pull), "pull " + pull, UNLIKE, x -> x.broke(0, 0));
            s.finds(() -> with("d0q110", 1, pull), "the last pull " + pull, UNLIKE, x -> x.broke(0, 0));
            s.finds(() -> with("d0q120", 6, pull), "pull " + pull + " behind the break", UNLIKE, x -> x.broke(0, 0));
        }
    }

    private static BellBalance shortened() {
        BellBalance x = with("d0q120", 1, 6, 6);
        lay(x, 0, 1);
        return x;
    }

    private interface BySlips {
        int by(BellBalance x, int i, int pull, int n, int p);
    }

    private static void slipRefusals(Sentences s, BySlips call) {
        badBells(s, (x, i) -> call.by(x, i, 1, 1, 1));
        for (int pull : new int[] {-1, 7, MIN, MAX}) {
            bad(s, "pull " + pull, (x, i) -> call.by(x, i, pull, 1, 1));
        }
        for (int n : new int[] {-1, 9, MIN, MAX}) {
            bad(s, "n " + n, (x, i) -> call.by(x, i, 1, n, 1));
        }
        for (int p : new int[] {-1, 13, MIN, MAX}) {
            bad(s, "p " + p, (x, i) -> call.by(x, i, 1, 1, p));
        }
    }

    private static void odds41(Sentences s) {
        s.says(41, "Chances that the STAY is whole behind n (0 .. 8) STROKES of one PULL (0 .. 6) by SLIPS of p (0 .. 12): 1.");
        s.chance(() -> with("d0q120"), "none", 1, 1, x -> x.odds(0, 6, 0, 12));
        s.chance(() -> with("d0q120"), "one: 9 of 12", 3, 4, x -> x.odds(0, 1, 1, 3));
        s.chance(() -> with("d0q120"), "two: 9 of 12 twice", 9, 16, x -> x.odds(0, 1, 2, 3));
        s.chance(() -> with("d0q120"), "eight: 11 of 12 eight times", 214358881, 429981696, x -> x.odds(0, 1, 8, 1));
        s.chance(() -> with("d0q120"), "p 0: surely whole", 1, 1, x -> x.odds(0, 1, 8, 0));
        s.chance(() -> with("d0q120"), "p 12: surely not", 0, 1, x -> x.odds(0, 1, 1, 12));
        s.chance(() -> with("d0q120"), "pull 0: even slipping, at 21", 1, 1, x -> x.odds(0, 0, 8, 12));
        s.chance(() -> with("d0b116"), "pull 6 slips to 7: 22", 5, 6, x -> x.odds(0, 6, 1, 2));
        s.chance(() -> with("d0g120"), "great by 5, slips to 6: breaks", 2, 3, x -> x.odds(0, 5, 1, 4));
        s.chance(() -> with("d0g119"), "great by 6, slips to 7: half of it is 3, 21", 1, 1, x -> x.odds(0, 6, 1, 12));
        s.chance(() -> with("d0q118"), "two by 1: 19 or 20, then 20, 21 (or 22 by two slips)", 143, 144, x -> x.odds(0, 1, 2, 1));
        s.chance(() -> with("d0b100"), "at 0 it is whole", 1, 1, x -> x.odds(0, 0, 8, 12));
        everySlip(s, true);
        s.aside(Scenes::rich, "nothing changes", 1, x -> x.odds(0, 3, 3, 3));

        s.says(41, "BAD;");
        slipRefusals(s, (x, i, pull, n, p) -> x.odds(i, pull, n, p));

        s.says(41, "STATE: it is OVER.");
        s.no(Scenes::rich, "over", STATE, x -> x.odds(2, 1, 1, 1));
        s.no(Scenes::rich, "over, no strokes", STATE, x -> x.odds(2, 0, 0, 0));
    }

    /* Each row of slips by itself, of bells that come to unlike heights, or break. */
    private static void everySlip(Sentences s, boolean whole) {
        for (int kind = 0; kind < 6; kind++) {
            for (int pull = 0; pull <= 6; pull++) {
                int n = 1 + (kind + pull) % 8;
                int p = (5 * kind + 3 * pull) % 13;
                int height = (7 * kind + 11 * pull) % 21;
                long sum = 0;
                for (int slips = 0; slips < 1 << n; slips++) {
                    int end = slipping(kind, height, pull, n, slips);
                    long weight = 1;
                    for (int k = 0; k < n; k++) {
                        weight *= (slips >> k & 1) == 1 ? p : 12 - p;
                    }
                    sum += end < 0 ? 0 : weight * (whole ? 1 : end);
                }
                long all = (long) Math.pow(12, n);
                long shared = java.math.BigInteger.valueOf(sum).gcd(java.math.BigInteger.valueOf(all)).longValue();
                int own = pull;
                String what = "kind " + kind + " at " + height + " by " + pull + ", " + n + " times, " + p + " of 12";
                s.chance(scene(kind, height), what, sum / shared, all / shared, x -> whole ? x.odds(0, own, n, p) : x.mid(0, own, n, p));
            }
        }
    }

    private static Sentences.Scene scene(int kind, int height) {
        return () -> with(0, kind, 1, height);
    }

    private static int slipping(int kind, int height, int pull, int n, int slips) {
        int h = height;
        for (int k = 0; k < n; k++) {
            h = then(kind, h, pull + (slips >> k & 1));
            if (h > 20) {
                return -1;
            }
        }
        return h;
    }

    private static void mid42(Sentences s) {
        s.says(42, "The mean of its HEIGHT then (OVER: 0): 1.");
        s.chance(() -> with("d0b118"), "no strokes", 18, 1, x -> x.mid(0, 6, 0, 12));
        s.chance(() -> with("d0b100"), "at 0", 0, 1, x -> x.mid(0, 0, 8, 12));
        s.chance(() -> with("d0b118"), "19 or 20", 229, 12, x -> x.mid(0, 2, 1, 1));
        s.chance(() -> with("d0q120"), "20, or over: 0", 15, 1, x -> x.mid(0, 1, 1, 3));
        s.chance(() -> with("d0q120"), "20 by 9 of 16", 45, 4, x -> x.mid(0, 1, 2, 3));
        s.chance(() -> with("d0q120"), "over: 0", 0, 1, x -> x.mid(0, 6, 1, 0));
        s.chance(() -> with("d0q100"), "eight by 0, each one more by a sixth", 4, 3, x -> x.mid(0, 0, 8, 2));
        s.chance(() -> with("d0q120"), "eight", 20L * 214358881 / 4, 429981696 / 4, x -> x.mid(0, 1, 8, 1));
        s.chance(() -> with("d0g110"), "great by 5, slips to 6: 11 or 12", 23, 2, x -> x.mid(0, 5, 1, 6));
        everySlip(s, false);
        s.aside(Scenes::rich, "nothing changes", 1, x -> x.mid(0, 3, 3, 3));

        s.says(42, "BAD; STATE.");
        slipRefusals(s, (x, i, pull, n, p) -> x.mid(i, pull, n, p));
        s.no(Scenes::rich, "over", STATE, x -> x.mid(2, 1, 1, 1));
    }

    private static void lots43(Sentences s) {
        s.says(43, "n (1 .. 20) ROUNDS truly by LOTS of a seed");
        BellBalance x = with("d0q100q100");
        s.is("one", x.lots(1, 1), 2);
        s.is("a deed", x.count(DEEDS), 1);
        s.is("strokes", bell(x, 0, STROKES), 1);
        s.is("twenty", x.lots(20, 2147483646) >= 0 ? 1 : 0, 1);
        s.is("20 deeds more", x.count(DEEDS), 21);
        s.is("each can be undone", x.undo(1), 20);
        s.is("to where it was", bell(x, 1, HEIGHT), 2);

        s.says(43, "for each BELL that is not OVER a number: it by 16, cut, modulo 4 is the PULL");
        // 48271 by 16 is 3016, modulo 4: 0; then 182605794 by 16 is 11412862: 2
        s.is("the first number: 0", bell(x, 0, HEIGHT), 0);
        s.is("the second number: 2", bell(x, 1, HEIGHT), 2);
        BellBalance y = with("d0q120q100");
        y.stroke(0, 6);
        y.lots(1, 1);
        s.is("who is over has none: the first one's is 0", bell(y, 1, HEIGHT), 0);
        y.lots(1, 48271);
        s.is("the second one's is 2", bell(y, 1, HEIGHT), 2);
        lotsByHand(s, "d0b110h115q112n100g119t118", 20, 77);
        lotsByHand(s, "d2q118q119q120t120t117b119", 20, 5);
        lotsByHand(s, "d2t120", 20, 2147483646);

        s.says(43, "how many are not OVER then.");
        s.is(() -> with("d0q100q100"), "both", 2, z -> z.lots(1, 1));
        s.is(() -> with("d0q100q120"), "the second one by 2 is", 1, z -> z.lots(1, 1));
        s.is(HeardSentences::allOver, "none, all over", 0, z -> z.lots(20, 1));
        BellBalance v = allOver();
        v.lots(20, 1);
        s.is("none, deeds all the same", v.count(DEEDS), 21);

        s.says(43, "BAD;");
        for (int n : new int[] {0, -1, 21, MIN, MAX}) {
            s.no(Scenes::rich, "n " + n, BAD, z -> z.lots(n, 1));
            s.no(BellBalance::new, "n " + n + ", ahead of STATE", BAD, z -> z.lots(n, 1));
        }
        for (int seed : new int[] {0, -1, MIN, MAX}) {
            s.no(Scenes::rich, "seed " + seed, BAD, z -> z.lots(1, seed));
            s.no(BellBalance::new, "seed " + seed + ", ahead of STATE", BAD, z -> z.lots(1, seed));
            s.no(Scenes::full, "seed " + seed + ", ahead of FULL", BAD, z -> z.lots(1, seed));
        }

        s.says(43, "STATE: no BELLS;");
        s.no(BellBalance::new, "one", STATE, z -> z.lots(1, 1));
        s.no(BellBalance::new, "twenty", STATE, z -> z.lots(20, 1));

        s.says(43, "FULL: with n more there would be more than 40 DEEDS.");
        s.no(Scenes::full, "one more than 40", FULL, z -> z.lots(1, 1));
        s.no(() -> deeds(39), "two more than 39", FULL, z -> z.lots(2, 1));
        s.is(() -> deeds(39), "one more than 39", 1, z -> z.lots(1, 1));
        s.no(() -> deeds(21), "20 more than 21", FULL, z -> z.lots(20, 1));
        BellBalance w = deeds(20);
        s.is("20 more than 20", w.lots(20, 1), 0);
        s.is("20 more than 20, deeds", w.count(DEEDS), 40);

        s.says(43, "(FULL last.)");
        s.no(Scenes::full, "BAD ahead", BAD, z -> z.lots(21, 1));
        s.no(BellBalance::new, "STATE ahead", STATE, z -> z.lots(1, 1));
    }

    private static BellBalance allOver() {
        BellBalance x = with("d0q120");
        x.stroke(0, 6);
        return x;
    }

    /* So many deeds; one bell of two is over. */
    private static BellBalance deeds(int n) {
        BellBalance x = full();
        x.undo(n);
        return x;
    }

    /* Strokes by the same numbers, on a tower that is rung bell by bell. */
    private static void lotsByHand(Sentences s, String tower, int rounds, int seed) {
        BellBalance x = with(tower);
        BellBalance y = with(tower);
        int bells = x.count(BELLS);
        int left = x.lots(rounds, seed);
        long lot = seed;
        for (int k = 0; k < rounds; k++) {
            int[] pulls = new int[bells];
            for (int i = 0; i < bells; i++) {
                if (bell(y, i, OVER) == 0) {
                    lot = lot * 48271 % 2147483647;
                    pulls[i] = (int) (lot / 16 % 4);
                }
            }
            lay(y, 0, pulls);
            y.round(0);
        }
        for (int i = 0; i < bells; i++) {
            for (int what = 0; what <= 5; what++) {
                s.is(tower + ", bell " + i + ", " + what, bell(x, i, what), bell(y, i, what));
            }
        }
        s.is(tower + ", not over", left, bells - y.count(OVERS));
    }
}
