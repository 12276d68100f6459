import java.util.ArrayList;
import java.util.List;

/** Sentences of promises 44 to 50: what is told. */
final class ToldSentences extends Scenes {
    private ToldSentences() {
    }

    static void test(Sentences s) {
        asked44(s);
        upper45(s);
        lower46(s);
        count47(s);
        finding48(s);
        findings49(s);
        digest50(s);
        onlyTelling(s);
    }

    private static void asked44(Sentences s) {
        s.says(44, "What the latest lay(), at(), mean(), bell(), stands(), hold(), error(), heard(), late(), broke() that was not refused (nor NONE) told");
        s.tells(Scenes::rich, "lay()", 1, 7, x -> x.lay(1, 2, 99));
        s.tells(Scenes::rich, "at()", 1, 5, x -> x.at(1, 0));
        s.tells(Scenes::rich, "mean()", 1, 2, x -> x.mean(1));
        s.tells(Scenes::rich, "bell()", 1, 9, x -> x.bell(1, WEIGHT));
        s.tells(() -> with("d0b120"), "stands()", 6, 120, x -> x.stands(0));
        s.tells(Scenes::rich, "hold()", 0, 15, x -> x.hold(0, 0));
        s.tells(Scenes::rich, "error()", 5, 59, x -> x.error(0));
        s.tells(Scenes::rich, "heard()", 0, 16, x -> x.heard(0, 0));
        s.tells(Scenes::rich, "late()", 1, 4, x -> x.late(0));
        s.tells(() -> with("d0q119", 3), "broke()", 0, 0, x -> x.broke(0, 0));
        s.tells(Scenes::rich, "refused by BAD", BAD, -6, x -> x.at(6, 0));
        s.tells(Scenes::rich, "refused by STATE", STATE, -6, x -> x.stands(2));
        s.tells(Scenes::rich, "refused by FINDING", FINDING, -6, x -> x.lay(1, 3, 0));
        s.tells(() -> told("d0h100", 9), "hold() NONE", NONE, 77, x -> x.hold(0, 0));
        s.tells(() -> told("d0b100", 0), "heard() NONE", NONE, 77, x -> x.heard(0, 0));
        s.tells(() -> told("d0b100", 0), "late() NONE", NONE, 77, x -> x.late(0));
        s.tells(() -> told("d0b100", 0), "broke() NONE", NONE, 77, x -> x.broke(0, 0));
        others(s);

        s.says(44, "0 before.");
        s.is(BellBalance::new, "new", 0, x -> x.asked());
        s.tells(() -> with(SIX), "no such call yet", 20, 0, x -> x.stroke(2, 1));
        s.tells(BellBalance::new, "refused ones alone", FINDING, 0, x -> x.at(0, 0));
    }

    /* asked() is 77, and row 0 laid. */
    private static BellBalance told(String tower, int... row) {
        BellBalance x = with(tower, row);
        x.row(5, 1);
        x.lay(5, 0, 77);
        x.at(5, 0);
        return x;
    }

    /* Calls that tell nothing by asked() leave it. */
    private static void others(Sentences s) {
        String tower = "d0h110g110q110";
        s.tells(() -> told(tower, 1, 1, 1), "row()", 2, 77, x -> x.row(1, 2));
        s.tells(() -> told(tower, 1, 1, 1), "tear()", 1, 77, x -> x.tear(0));
        s.tells(() -> told(tower, 1, 1, 1), "copy()", 1, 77, x -> x.copy(0, 0, 0, 1, 2));
        s.tells(() -> told(tower, 1, 1, 1), "text()", 2, 77, x -> x.text(1, 2));
        s.tells(() -> told(tower, 1, 1, 1), "put()", 1100, 77, x -> x.put(0, 0, 0));
        s.tells(() -> told(tower, 1, 1, 1), "fault()", NONE, 77, x -> x.fault(0));
        s.tells(() -> told(tower, 1, 1, 1), "tower()", 3, 77, x -> x.tower(0));
        s.tells(() -> told(tower, 1, 1, 1), "mark()", 6, 77, x -> x.mark(0, HEAVY));
        s.tells(() -> told(tower, 1, 1, 1), "damp()", 0, 77, x -> x.damp(1));
        s.tells(() -> told(tower, 1, 1, 1), "stroke()", 10, 77, x -> x.stroke(0, 2));
        s.tells(() -> told(tower, 1, 1, 1), "round()", 7, 77, x -> x.round(0));
        s.tells(() -> told(tower, 1, 1, 1), "undo()", 0, 77, x -> x.undo(0));
        s.tells(() -> told(tower, 1, 1, 1), "keep()", 0, 77, x -> x.keep(0));
        s.tells(() -> told(tower, 1, 1, 1), "strikes()", 15, 77, x -> x.strikes(0, 2));
        s.tells(() -> told(tower, 1, 1, 1), "raise()", 5, 77, x -> x.raise(0, 1));
        s.tells(() -> told(tower, 1, 1, 1), "ways()", 1, 77, x -> x.ways(0, 1));
        s.tells(() -> told(tower, 1, 1, 1), "arms()", 6, 77, x -> x.arms(0, 1, 12, 1));
        s.tells(() -> told(tower, 1, 1, 1), "drops()", 6, 77, x -> x.drops(0));
        s.tells(() -> told(tower, 1, 1, 1), "back()", 0, 77, x -> x.back(0));
        s.tells(() -> told("d0b110"), "even()", 0, 77, x -> x.even(1));
        s.tells(() -> told("d0b110", 0), "change()", 0, 77, x -> x.change(0, 1));
        s.tells(() -> told("d0b110"), "orders()", 1, 77, x -> x.orders());
        s.tells(() -> told("d0b110"), "game()", 0, 77, x -> x.game(0, 1));
        s.tells(() -> told("d0q120"), "first()", 0, 77, x -> x.first(0, 1));
        s.tells(() -> told("d0b110", 1, 15), "kinds()", 5, 77, x -> x.kinds(0, 0));
        s.tells(() -> told("d0b110", 1, 15), "damps()", 1, 77, x -> x.damps(0, 0));
        s.tells(() -> told("d0b110", 1, 15), "heights()", 3072, 77, x -> x.heights(0, 0));
        s.tells(() -> told("d0b110"), "odds()", 1, 77, x -> x.odds(0, 1, 1, 1));
        s.tells(() -> told("d0b110"), "mid()", 1, 77, x -> x.mid(0, 1, 1, 1));
        s.tells(() -> told("d0b110"), "lots()", 1, 77, x -> x.lots(1, 1));
        s.tells(() -> told("d0b110"), "count()", 1, 77, x -> x.count(BELLS));
        s.tells(() -> told("d0b110"), "finding()", 0, 77, x -> x.finding());
        s.tells(() -> told("d0b110"), "findings()", 0, 77, x -> x.findings(1));
    }

    private static void upper45(Sentences s) {
        s.says(45, "The upper number that was told last");
        BellBalance x = with("d0q120b112h117");
        x.odds(0, 1, 2, 3);
        s.is("odds()", x.upper(), 9);
        x.mid(0, 1, 2, 3);
        s.is("mid()", x.upper(), 45);
        x.ways(1, 2);
        s.is("ways()", x.upper(), 5);
        x.odds(0, 1, 2, 13);
        x.odds(9, 1, 2, 3);
        x.ways(1, 13);
        s.is("refused: it stays", x.upper(), 5);
        x.stroke(0, 6);
        x.mid(0, 1, 2, 3);
        s.is("refused by STATE: it stays", x.upper(), 5);
        x.ways(2, 12);
        s.is("a long", x.upper(), 2926966240L);

        s.says(45, "0 before.");
        s.is(BellBalance::new, "new", 0, y -> y.upper());
        s.is(() -> with(SIX), "no such call yet", 0, y -> y.upper());
    }

    private static void lower46(Sentences s) {
        s.says(46, "Its lower number");
        BellBalance x = with("d0q120b112");
        x.odds(0, 1, 2, 3);
        s.is("odds()", x.lower(), 16);
        x.mid(0, 1, 2, 3);
        s.is("mid()", x.lower(), 4);
        x.odds(0, 1, 2, 13);
        s.is("refused: it stays", x.lower(), 4);
        x.ways(1, 2);
        s.is("ways()", x.lower(), 1);
        x.odds(0, 1, 8, 1);
        s.is("12 to the eighth", x.lower(), 429981696);
        x.odds(0, 6, 8, 1);
        s.is("of 0", x.lower(), 1);

        s.says(46, "1 before.");
        s.is(BellBalance::new, "new", 1, y -> y.lower());
        s.is(() -> with(SIX), "no such call yet", 1, y -> y.lower());
    }

    private static void count47(Sentences s) {
        s.says(47, "0 BELLS, 1 the DAMP, 2 DEEDS, 3 BELLS that are OVER, 4 that STAND, 5 HEAVY ones (GREAT, too), 6 ROWS, 7 TEXTS that are there, 8 kept TOWERS.");
        int[] rich = {6, 1, 2, 1, 0, 2, 3, 3, 2};
        int[] six = {6, 1, 0, 0, 1, 2, 0, 1, 0};
        int[] full = {2, 0, 40, 1, 0, 0, 1, 1, 0};
        int[] standing = {6, 3, 0, 0, 5, 3, 0, 1, 0};
        for (int k = 0; k <= 8; k++) {
            int what = k;
            s.aside(Scenes::rich, "rich, " + k, rich[k], x -> x.count(what));
            s.is(() -> with(SIX), "six, " + k, six[k], x -> x.count(what));
            s.is(Scenes::full, "full, " + k, full[k], x -> x.count(what));
            s.is(() -> with("d3h120g120g119q120t120b120"), "standing, " + k, standing[k], x -> x.count(what));
            s.is(BellBalance::new, "none, " + k, 0, x -> x.count(what));
        }
        BellBalance y = rich();
        for (int r = 0; r <= 5; r++) {
            y.row(r, 0);
        }
        for (int t = 0; t <= 3; t++) {
            y.text(t, 0);
        }
        y.keep(1);
        s.is("all rows", y.count(6), 6);
        s.is("all texts", y.count(7), 4);
        s.is("all kept", y.count(8), 3);
        BellBalance z = with("d0q120h120");
        z.stroke(0, 6);
        z.stroke(1, 6);
        s.is("all over", z.count(3), 2);
        s.is("over ones do not stand", z.count(4), 0);
        s.is("over ones are heavy", z.count(5), 1);
        s.is("over ones are bells", z.count(0), 2);

        s.says(47, "BAD.");
        for (int what : new int[] {-1, 9, MIN, MAX}) {
            s.no(Scenes::rich, "what " + what, BAD, x -> x.count(what));
        }
    }

    private static void finding48(Sentences s) {
        s.says(48, "The latest FINDING");
        BellBalance x = rich();
        s.is("NOTHING", x.finding(), 1);
        x.at(1, 9);
        s.is("BEYOND", x.finding(), 2);
        x.mark(0, 1);
        s.is("UNLIKE", x.finding(), 3);
        x.mean(2);
        s.is("NOUGHT", x.finding(), 4);
        x.row(0, -1);
        s.is("SIZE", x.finding(), 5);
        x.row(9, 1);
        x.stroke(2, 1);
        x.arms(0, 0, 1, 0);
        x.at(1, 0);
        x.tower(0);
        s.is("others leave it", x.finding(), 5);
        x.tear(3);
        s.is("NOTHING again", x.finding(), 1);

        s.says(48, "(0 before any).");
        s.is(BellBalance::new, "new", 0, y -> y.finding());
        s.is(() -> with(SIX), "none yet", 0, y -> y.finding());
    }

    private static void findings49(Sentences s) {
        s.says(49, "How often a FINDING (1 .. 5) was answered.");
        BellBalance x = new BellBalance();
        x.row(0, 0);
        for (int k = 0; k < 3; k++) {
            x.tear(5);
        }
        x.at(0, 0);
        x.at(0, 1);
        for (int k = 0; k < 5; k++) {
            x.mean(0);
        }
        x.text(0, -1);
        x.row(9, -1);
        int[] due = {0, 3, 2, 0, 5, 1};
        for (int f = 1; f <= 5; f++) {
            s.is("finding " + f, x.findings(f), due[f]);
            int none = f;
            s.is(BellBalance::new, "new, " + f, 0, y -> y.findings(none));
        }
        BellBalance z = with("d0b110", 7);
        z.round(0);
        z.mark(0, 1);
        s.is("UNLIKE", z.findings(3), 2);
        BellBalance w = rich();
        w.at(1, 0);
        w.at(1, 3);
        w.tear(5);
        w.tear(1);
        w.mean(2);
        w.mark(0, HEAVY);
        w.mark(1, HEAVY);
        int[] counted = {0, 2, 2, 2, 2, 1};
        for (int f = 1; f <= 5; f++) {
            s.is("each is counted alone, " + f, w.findings(f), counted[f]);
        }

        s.says(49, "BAD.");
        for (int f : new int[] {0, -1, 6, MIN, MAX}) {
            s.no(Scenes::rich, "finding " + f, BAD, y -> y.findings(f));
        }
    }

    /* The calls that only tell leave all that the others tell, and tell the same again. */
    private static void onlyTelling(Sentences s) {
        String[] words = {"What the latest lay()", "The upper number that was told last", "Its lower number", "0 BELLS, 1 the DAMP, 2 DEEDS", "The latest FINDING", "How often a FINDING (1 .. 5) was answered.", "asked() stays"};
        Sentences.Call[] calls = {x -> x.asked(), x -> x.upper(), x -> x.lower(), x -> x.count(OVERS), x -> x.finding(), x -> x.findings(SIZE), x -> x.digest()};
        for (int k = 0; k < calls.length; k++) {
            s.says(44 + k, words[k]);
            BellBalance x = rich();
            long first = calls[k].on(x);
            s.is("told again", calls[k].on(x), first);
            s.alike("the others tell the same", toldBut(k, x), toldBut(k, rich()));
        }
    }

    /* What is told by all calls but one; those that use count() come last, so that nothing it did is done again. */
    private static List<Long> toldBut(int left, BellBalance x) {
        List<Long> all = new ArrayList<>();
        if (left != 0) {
            all.add((long) x.asked());
        }
        if (left != 1) {
            all.add(x.upper());
        }
        if (left != 2) {
            all.add(x.lower());
        }
        if (left != 4) {
            all.add((long) x.finding());
        }
        for (int f = 1; f <= 5 && left != 5; f++) {
            all.add((long) x.findings(f));
        }
        all.add((long) x.fault(1));
        for (int i = 0; i < 3; i++) {
            all.add((long) x.at(1, i));
        }
        for (int k = 0; k <= 8 && left != 3; k++) {
            all.add((long) x.count(k));
        }
        if (left != 6) {
            all.add(x.digest());
        }
        return all;
    }

    private static long digestOf(List<Integer> values) {
        long h = 17;
        for (int v : values) {
            h = 31 * h + v;
        }
        return h;
    }

    private static long digestOf(int... values) {
        List<Integer> all = new ArrayList<>();
        for (int v : values) {
            all.add(v);
        }
        return digestOf(all);
    }

    private static BellBalance some() {
        BellBalance x = with("d1h711");
        x.stroke(0, 6);
        x.keep(1);
        x.row(5, 2);
        x.lay(5, 1, -3);
        x.text(3, 1);
        x.put(3, 0, -5);
        x.bell(0, HEIGHT);
        return x;
    }

    private static void digest50(Sentences s) {
        s.says(50, "h = 17; then h = 31 h + v for each v");
        s.is(BellBalance::new, "of none", digestOf(0, 0, 0, 0, 0, 0, 0, 0, 0, -1, -1, -1, -1, -1, -1, -1, -1, -1, -1, -1, -1, -1), x -> x.digest());
        s.is(ToldSentences::some, "of some", digestOf(1, 1, 1, 0, 0, 1, 1, 2, 1, 1, 7, 13, 0, 0, 1, -1, 1, -1, -1, -1, -1, -1, -1, 2, 0, -3,
            6, 'd', '1', 'h', '7', '1', '1', -1, -1, 1, -5), x -> x.digest());

        s.says(50, "(of a call that tells by asked(): what it tells, not the 1 that it answers; asked() stays)");
        s.tells(ToldSentences::some, "asked()", some().digest(), 13, x -> x.digest());
        s.no(Scenes::rich, "nothing changes", rich().digest(), x -> x.digest());

        s.says(50, "count() 0 to 8; of each BELL bell() 0 to 5; of each kept TOWER how many DEEDS (-1: missing); of each ROW its size (-1: missing) and places, of each TEXT likewise.");
        byParts(s, "new", new BellBalance(), new BellBalance(), -1, -1, -1);
        byParts(s, "rich", rich(), rich(), 1, -1, 2);
        byParts(s, "full", full(), full(), -1, -1, -1);
        byParts(s, "some", some(), some(), -1, 1, -1);
        BellBalance y = some();
        y.tear(5);
        s.is("a torn row is -1 alone", y.digest(), digestOf(1, 1, 1, 0, 0, 1, 0, 2, 1, 1, 7, 13, 0, 0, 1, -1, 1, -1, -1, -1, -1, -1, -1, -1,
            6, 'd', '1', 'h', '7', '1', '1', -1, -1, 1, -5));
        BellBalance z = new BellBalance();
        z.row(0, 1);
        z.lay(0, 0, MIN);
        z.row(1, 0);
        s.is("the least int, and an empty row", z.digest(), digestOf(0, 0, 0, 0, 0, 0, 2, 0, 0, -1, -1, -1, 1, MIN, 0, -1, -1, -1, -1, -1, -1, -1, -1));
    }

    /* The digest of the one, by what the calls tell of the other, which is alike. */
    private static void byParts(Sentences s, String what, BellBalance x, BellBalance alike, int... keptDeeds) {
        List<Integer> parts = new ArrayList<>();
        for (int k = 0; k <= 8; k++) {
            parts.add(alike.count(k));
        }
        for (int i = 0; i < alike.count(BELLS); i++) {
            for (int k = 0; k <= 5; k++) {
                parts.add(bell(alike, i, k));
            }
        }
        for (int deeds : keptDeeds) {
            parts.add(deeds);
        }
        for (int r = 0; r <= 5; r++) {
            int place = parts.size();
            int n = 0;
            for (; alike.at(r, n) == 1; n++) {
                parts.add(alike.asked());
            }
            parts.add(place, alike.finding() == NOTHING ? -1 : n);
        }
        for (int t = 0; t <= 3; t++) {
            int place = parts.size();
            int n = 0;
            for (int was = alike.put(t, 0, 0); was != FINDING; was = alike.put(t, n, 0)) {
                parts.add(was - 1000);
                n++;
            }
            parts.add(place, alike.finding() == NOTHING ? -1 : n);
        }
        s.is(what, x.digest(), digestOf(parts));
    }
}
