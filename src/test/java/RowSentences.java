/** Sentences of promises 1 to 14: rows, texts, towers. */
final class RowSentences extends Scenes {
    private RowSentences() {
    }

    static void test(Sentences s) {
        new1(s);
        row2(s);
        lay3(s);
        at4(s);
        tear5(s);
        copy6(s);
        mean7(s);
        text8(s);
        put9(s);
        fault10(s);
        tower11(s);
        bell12(s);
        mark13(s);
        damp14(s);
    }

    private static void new1(Sentences s) {
        s.says(1, "No ROWS, TEXTS, BELLS.");
        for (int what = 0; what <= 8; what++) {
            int w = what;
            s.is(BellBalance::new, "count " + w, 0, x -> x.count(w));
        }
        for (int k = 0; k <= 5; k++) {
            int r = k;
            s.finds(BellBalance::new, "row " + r, NOTHING, x -> x.tear(r));
        }
        for (int k = 0; k <= 3; k++) {
            int t = k;
            s.finds(BellBalance::new, "text " + t, NOTHING, x -> x.tower(t));
        }
        for (int k = 0; k <= 2; k++) {
            int place = k;
            s.finds(BellBalance::new, "kept tower " + place, NOTHING, x -> x.on(place));
        }
        s.no(BellBalance::new, "bell 0", BAD, x -> x.bell(0, KIND));
        s.no(BellBalance::new, "a round", STATE, x -> x.round(0));
    }

    private static void row2(Sentences s) {
        s.says(2, "A ROW is there with n ints 0: n.");
        BellBalance x = new BellBalance();
        s.is("of 3", x.row(1, 3), 3);
        s.row("of 3", x, 1, 0, 0, 0);
        lay(x, 1, 7, 8, 9);
        s.is("anew, shorter", x.row(1, 2), 2);
        s.row("anew, shorter", x, 1, 0, 0);
        lay(x, 1, 7, 8);
        s.is("anew, longer", x.row(1, 4), 4);
        s.row("anew, longer", x, 1, 0, 0, 0, 0);
        s.is("of none", x.row(1, 0), 0);
        s.row("of none", x, 1);
        s.is("of 40", x.row(1, 40), 40);
        s.row("of 40", x, 1, new int[40]);
        s.is("others stay missing", x.count(ROWS), 1);
        s.is(Scenes::rich, "in the place of one", 40, y -> y.row(0, 40));

        s.says(2, "BAD: also n above 40");
        s.no(Scenes::rich, "41", BAD, y -> y.row(0, 41));
        s.no(Scenes::rich, "41 in a missing one", BAD, y -> y.row(3, 41));
        s.no(Scenes::rich, "the most", BAD, y -> y.row(0, MAX));
        for (int r : new int[] {-1, 6, MIN, MAX}) {
            s.no(Scenes::rich, "row " + r, BAD, y -> y.row(r, 1));
            s.no(Scenes::rich, "row " + r + ", ahead of SIZE", BAD, y -> y.row(r, -1));
        }

        s.says(2, "SIZE: below 0.");
        s.finds(Scenes::rich, "-1", SIZE, y -> y.row(0, -1));
        s.finds(Scenes::rich, "-1 in a missing one", SIZE, y -> y.row(3, -1));
        s.finds(Scenes::rich, "the least", SIZE, y -> y.row(1, MIN));
    }

    private static void lay3(Sentences s) {
        s.says(3, "Place i of a ROW is v: what it was, told by asked(): 1.");
        BellBalance x = new BellBalance();
        x.row(0, 40);
        s.is("the last place", x.lay(0, 39, MAX), 1);
        s.is("the last place was", x.asked(), 0);
        s.is("again", x.lay(0, 39, MIN), 1);
        s.is("it was", x.asked(), MAX);
        s.is("the first place", x.lay(0, 0, 3), 1);
        s.is("the first place was", x.asked(), 0);
        s.is("and is", x.at(0, 39), 1);
        s.is("and is", x.asked(), MIN);
        s.is("the next one stays", x.at(0, 38), 1);
        s.is("the next one stays", x.asked(), 0);

        s.says(3, "BAD; NOTHING; BEYOND.");
        for (int r : new int[] {-1, 6, MIN, MAX}) {
            s.no(Scenes::rich, "row " + r, BAD, y -> y.lay(r, 0, 1));
            s.no(Scenes::rich, "row " + r + ", ahead of BEYOND", BAD, y -> y.lay(r, -1, 1));
        }
        s.finds(Scenes::rich, "missing", NOTHING, y -> y.lay(3, 0, 1));
        s.finds(Scenes::rich, "missing, ahead of BEYOND", NOTHING, y -> y.lay(3, 40, 1));
        s.finds(Scenes::rich, "behind the last", BEYOND, y -> y.lay(1, 3, 1));
        s.finds(Scenes::rich, "of none", BEYOND, y -> y.lay(2, 0, 1));
        for (int i : new int[] {-1, 40, MIN, MAX}) {
            s.finds(Scenes::rich, "place " + i, BEYOND, y -> y.lay(1, i, 1));
        }
    }

    private static void at4(Sentences s) {
        s.says(4, "Place i of a ROW, told by asked(): 1.");
        s.tells(Scenes::rich, "the first", 1, 5, x -> x.at(1, 0));
        s.tells(Scenes::rich, "the last", 1, 7, x -> x.at(1, 2));
        s.tells(Scenes::rich, "of another row", 1, 3, x -> x.at(0, 4));
        s.aside(Scenes::rich, "it stays so", 1, x -> x.at(1, 2));

        s.says(4, "BAD; NOTHING; BEYOND.");
        for (int r : new int[] {-1, 6, MIN, MAX}) {
            s.no(Scenes::rich, "row " + r, BAD, x -> x.at(r, 0));
            s.no(Scenes::rich, "row " + r + ", ahead of BEYOND", BAD, x -> x.at(r, -1));
        }
        s.finds(Scenes::rich, "missing", NOTHING, x -> x.at(4, 0));
        s.finds(Scenes::rich, "missing, ahead of BEYOND", NOTHING, x -> x.at(4, -1));
        s.finds(Scenes::rich, "behind the last", BEYOND, x -> x.at(1, 3));
        s.finds(Scenes::rich, "of none", BEYOND, x -> x.at(2, 0));
        for (int i : new int[] {-1, 40, MIN, MAX}) {
            s.finds(Scenes::rich, "place " + i, BEYOND, x -> x.at(1, i));
        }
    }

    private static void tear5(Sentences s) {
        s.says(5, "A ROW is missing: 1.");
        BellBalance x = rich();
        s.is("tear", x.tear(1), 1);
        s.missing("row 1", x, 1);
        s.is("the others stay", x.count(ROWS), 2);
        s.is("an empty one", x.tear(2), 1);
        s.is("anew", x.row(1, 3), 3);
        s.row("anew", x, 1, 0, 0, 0);

        s.says(5, "BAD; NOTHING.");
        for (int r : new int[] {-1, 6, MIN, MAX}) {
            s.no(Scenes::rich, "row " + r, BAD, y -> y.tear(r));
        }
        s.finds(Scenes::rich, "missing", NOTHING, y -> y.tear(3));
        s.finds(RowSentences::tornOne, "torn", NOTHING, y -> y.tear(1));
    }

    private static BellBalance tornOne() {
        BellBalance x = rich();
        x.tear(1);
        return x;
    }

    private static BellBalance fiveAndThree() {
        BellBalance x = new BellBalance();
        lay(x, 0, 1, 2, 3, 4, 5);
        lay(x, 1, 7, 8, 9);
        x.row(2, 0);
        return x;
    }

    private static void copies(Sentences s, String what, int r, int i, int to, int j, int n, int... due) {
        BellBalance x = fiveAndThree();
        s.is(what, x.copy(r, i, to, j, n), 1);
        s.row(what, x, to, due);
        if (r != to) {
            BellBalance y = fiveAndThree();
            y.copy(r, i, to, j, n);
            int[] own = r == 0 ? new int[] {1, 2, 3, 4, 5} : new int[] {7, 8, 9};
            s.row(what + ", the one it comes from stays", y, r, own);
        }
    }

    private static void copy6(Sentences s) {
        s.says(6, "n places of a ROW, from one on, come to those of another one (perhaps itself) from one on");
        copies(s, "two", 0, 1, 1, 0, 2, 2, 3, 9);
        copies(s, "to the end", 0, 3, 1, 1, 2, 7, 4, 5);
        copies(s, "all of it", 1, 0, 0, 2, 3, 1, 2, 7, 8, 9);
        copies(s, "none", 0, 2, 1, 1, 0, 7, 8, 9);
        copies(s, "itself", 0, 0, 0, 3, 2, 1, 2, 3, 1, 2);
        copies(s, "itself to itself", 0, 0, 0, 0, 5, 1, 2, 3, 4, 5);
        BellBalance whole = new BellBalance();
        whole.row(0, 40);
        whole.row(5, 40);
        whole.lay(0, 39, 6);
        s.is("40", whole.copy(0, 0, 5, 0, 40), 1);
        whole.at(5, 39);
        s.is("40, the last", whole.asked(), 6);

        s.says(6, "as if taken ahead: 1.");
        copies(s, "on within itself", 0, 0, 0, 1, 4, 1, 1, 2, 3, 4);
        copies(s, "back within itself", 0, 1, 0, 0, 4, 2, 3, 4, 5, 5);

        s.says(6, "BAD");
        for (int r : new int[] {-1, 6, MIN, MAX}) {
            s.no(Scenes::rich, "row " + r, BAD, x -> x.copy(r, 0, 1, 0, 1));
            s.no(Scenes::rich, "row " + r + " the other", BAD, x -> x.copy(1, 0, r, 0, 1));
            s.no(Scenes::rich, "row " + r + ", with none", BAD, x -> x.copy(r, 0, r, 0, 0));
        }

        s.says(6, "SIZE: n below 0");
        s.finds(Scenes::rich, "-1", SIZE, x -> x.copy(0, 1, 1, 1, -1));
        s.finds(Scenes::rich, "the least", SIZE, x -> x.copy(0, 1, 1, 1, MIN));

        s.says(6, "NOTHING: either");
        s.finds(Scenes::rich, "the one", NOTHING, x -> x.copy(3, 0, 1, 0, 0));
        s.finds(Scenes::rich, "the other", NOTHING, x -> x.copy(1, 0, 3, 0, 0));
        s.finds(Scenes::rich, "both", NOTHING, x -> x.copy(3, 0, 4, 0, 1));

        s.says(6, "BEYOND: not so many there");
        s.finds(RowSentences::fiveAndThree, "of the one", BEYOND, x -> x.copy(1, 0, 0, 0, 4));
        s.finds(RowSentences::fiveAndThree, "of the other", BEYOND, x -> x.copy(0, 0, 1, 0, 4));
        s.finds(RowSentences::fiveAndThree, "from 1 on", BEYOND, x -> x.copy(1, 1, 0, 0, 3));
        s.finds(RowSentences::fiveAndThree, "to 1 on", BEYOND, x -> x.copy(0, 0, 1, 1, 3));
        s.finds(RowSentences::fiveAndThree, "from -1 on", BEYOND, x -> x.copy(0, -1, 1, 0, 1));
        s.finds(RowSentences::fiveAndThree, "to -1 on", BEYOND, x -> x.copy(0, 0, 1, -1, 1));
        s.finds(RowSentences::fiveAndThree, "n the most", BEYOND, x -> x.copy(0, 1, 1, 1, MAX));
        s.finds(RowSentences::fiveAndThree, "i the most: i + n wraps around", BEYOND, x -> x.copy(0, MAX, 1, 0, 1));
        s.finds(RowSentences::fiveAndThree, "j the most: j + n wraps around", BEYOND, x -> x.copy(0, 0, 1, MAX, 1));
        s.finds(RowSentences::fiveAndThree, "all the most", BEYOND, x -> x.copy(0, MAX, 1, MAX, MAX));
        s.finds(RowSentences::fiveAndThree, "i the least", BEYOND, x -> x.copy(0, MIN, 1, 0, 1));
        s.finds(RowSentences::fiveAndThree, "j the least", BEYOND, x -> x.copy(0, 0, 1, MIN, 1));

        s.says(6, "(with n 0, too, if i or j is below 0 or above the size).");
        s.is(RowSentences::fiveAndThree, "i at the size", 1, x -> x.copy(0, 5, 1, 0, 0));
        s.is(RowSentences::fiveAndThree, "j at the size", 1, x -> x.copy(0, 0, 1, 3, 0));
        s.is(RowSentences::fiveAndThree, "of empty ones", 1, x -> x.copy(2, 0, 2, 0, 0));
        s.finds(RowSentences::fiveAndThree, "i above the size", BEYOND, x -> x.copy(0, 6, 1, 0, 0));
        s.finds(RowSentences::fiveAndThree, "j above the size", BEYOND, x -> x.copy(0, 0, 1, 4, 0));
        s.finds(RowSentences::fiveAndThree, "i below 0", BEYOND, x -> x.copy(0, -1, 1, 0, 0));
        s.finds(RowSentences::fiveAndThree, "j below 0", BEYOND, x -> x.copy(0, 0, 1, -1, 0));
        s.finds(RowSentences::fiveAndThree, "of an empty one", BEYOND, x -> x.copy(2, 1, 0, 0, 0));
        s.finds(RowSentences::fiveAndThree, "i the most", BEYOND, x -> x.copy(0, MAX, 1, 0, 0));
        s.finds(RowSentences::fiveAndThree, "j the least", BEYOND, x -> x.copy(0, 0, 1, MIN, 0));

        s.says(6, "(In this order.)");
        s.no(Scenes::rich, "BAD ahead of SIZE", BAD, x -> x.copy(0, 0, 6, 0, -1));
        s.no(Scenes::rich, "BAD ahead of NOTHING", BAD, x -> x.copy(3, 0, 6, 0, 1));
        s.finds(Scenes::rich, "SIZE ahead of NOTHING", SIZE, x -> x.copy(3, 0, 1, 0, -1));
        s.finds(Scenes::rich, "SIZE ahead of BEYOND", SIZE, x -> x.copy(0, 99, 1, 0, -1));
        s.finds(Scenes::rich, "NOTHING ahead of BEYOND", NOTHING, x -> x.copy(3, 99, 1, 0, 1));
        s.finds(Scenes::rich, "NOTHING of the other ahead of BEYOND", NOTHING, x -> x.copy(1, 99, 3, 0, 1));
    }

    private static void mean7(Sentences s) {
        s.says(7, "The mean of a ROW's ints, cut, told by asked(): 1.");
        s.tells(() -> with("d0b100", 4), "of one", 1, 4, x -> x.mean(0));
        s.tells(() -> with("d0b100", 3, 4, 4), "11 by 3", 1, 3, x -> x.mean(0));
        s.tells(() -> with("d0b100", -3, -4), "-7 by 2, cut", 1, -3, x -> x.mean(0));
        s.tells(() -> with("d0b100", -1, 0), "-1 by 2, cut", 1, 0, x -> x.mean(0));
        s.tells(() -> with("d0b100", MAX, MAX, MAX), "the most, without a wrap-around", 1, MAX, x -> x.mean(0));
        s.tells(() -> with("d0b100", MIN, MIN), "the least, without a wrap-around", 1, MIN, x -> x.mean(0));
        int[] most = new int[40];
        java.util.Arrays.fill(most, MAX);
        s.tells(() -> with("d0b100", most), "40 of the most", 1, MAX, x -> x.mean(0));
        s.aside(Scenes::rich, "the row stays", 1, x -> x.mean(1));

        s.says(7, "BAD; NOTHING; NOUGHT.");
        for (int r : new int[] {-1, 6, MIN, MAX}) {
            s.no(Scenes::rich, "row " + r, BAD, x -> x.mean(r));
        }
        s.finds(Scenes::rich, "missing", NOTHING, x -> x.mean(3));
        s.finds(Scenes::rich, "of none", NOUGHT, x -> x.mean(2));
    }

    private static void text8(Sentences s) {
        s.says(8, "A TEXT is there with n blanks: n.");
        BellBalance x = new BellBalance();
        for (int n : new int[] {0, 1, 2, 60}) {
            s.is("of " + n, x.text(3, n), n);
            for (int i = 0; i < n; i++) {
                s.is("of " + n + ", a blank", x.put(3, i, 100), 1032);
            }
            s.is("of " + n + ", no more", x.put(3, n, 100), FINDING);
        }
        s.is("anew, shorter", x.text(3, 2), 2);
        s.is("anew, a blank", x.put(3, 1, 7), 1032);
        s.is("anew, no more", x.put(3, 2, 7), FINDING);
        s.is("the others stay missing", x.count(TEXTS), 1);
        BellBalance w = rich();
        w.text(0, 0);
        s.is("the tower stays, without its text", w.count(BELLS), 6);

        s.says(8, "BAD: also n above 60");
        s.no(Scenes::rich, "61", BAD, y -> y.text(0, 61));
        s.no(Scenes::rich, "61 in a missing one", BAD, y -> y.text(3, 61));
        s.no(Scenes::rich, "the most", BAD, y -> y.text(0, MAX));
        for (int t : new int[] {-1, 4, MIN, MAX}) {
            s.no(Scenes::rich, "text " + t, BAD, y -> y.text(t, 1));
            s.no(Scenes::rich, "text " + t + ", ahead of SIZE", BAD, y -> y.text(t, -1));
        }

        s.says(8, "SIZE: below 0.");
        s.finds(Scenes::rich, "-1", SIZE, y -> y.text(0, -1));
        s.finds(Scenes::rich, "-1 in a missing one", SIZE, y -> y.text(3, -1));
        s.finds(Scenes::rich, "the least", SIZE, y -> y.text(1, MIN));
    }

    private static void put9(Sentences s) {
        s.says(9, "Byte i of a TEXT is v, cut to a byte (-128 .. 127)");
        int[] given = {127, 128, 129, 255, 256, 257, -1, -128, -129, -256, MAX, MIN, 65536 + 98};
        int[] due = {127, -128, -127, -1, 0, 1, -1, -128, 127, 0, -1, 0, 98};
        for (int k = 0; k < given.length; k++) {
            BellBalance x = new BellBalance();
            x.text(1, 2);
            x.put(1, 1, given[k]);
            s.is(given[k] + " is", x.put(1, 1, 0), 1000 + due[k]);
            s.is(given[k] + ", the next one stays", x.put(1, 0, 0), 1032);
        }

        s.says(9, "what it was, and 1000 more.");
        BellBalance y = new BellBalance();
        y.text(0, 60);
        s.is("a blank", y.put(0, 59, -128), 1032);
        s.is("the least", y.put(0, 59, 127), 872);
        s.is("the most", y.put(0, 59, 0), 1127);
        s.is("0", y.put(0, 59, 1), 1000);
        s.is("the first place", y.put(0, 0, 1), 1032);

        s.says(9, "BAD; NOTHING; BEYOND.");
        for (int t : new int[] {-1, 4, MIN, MAX}) {
            s.no(Scenes::rich, "text " + t, BAD, x -> x.put(t, 0, 1));
            s.no(Scenes::rich, "text " + t + ", ahead of BEYOND", BAD, x -> x.put(t, -1, 1));
        }
        s.finds(Scenes::rich, "missing", NOTHING, x -> x.put(3, 0, 1));
        s.finds(Scenes::rich, "missing, ahead of BEYOND", NOTHING, x -> x.put(3, 60, 1));
        s.finds(Scenes::rich, "behind the last", BEYOND, x -> x.put(1, 10, 1));
        s.finds(Scenes::rich, "of none", BEYOND, x -> x.put(2, 0, 1));
        for (int i : new int[] {-1, 60, MIN, MAX}) {
            s.finds(Scenes::rich, "place " + i, BEYOND, x -> x.put(1, i, 1));
        }
    }

    private static void fault10(Sentences s) {
        s.says(10, "A FAULT of a TEXT");
        s.aside(Scenes::rich, "at its end", 10, x -> x.fault(1));
        s.aside(Scenes::rich, "of none", 0, x -> x.fault(2));
        s.is("at 0", fault("x"), 0);

        s.says(10, "NONE: there is none.");
        s.no(Scenes::rich, "a tower", NONE, x -> x.fault(0));

        s.says(10, "BAD; NOTHING.");
        for (int t : new int[] {-1, 4, MIN, MAX}) {
            s.no(Scenes::rich, "text " + t, BAD, x -> x.fault(t));
        }
        s.finds(Scenes::rich, "missing", NOTHING, x -> x.fault(3));
    }

    private static void tower11(Sentences s) {
        s.says(11, "A TOWER by a TEXT (anew: no DEEDS, all STAYS whole; kept TOWERS go)");
        BellBalance x = rich();
        s.is("the same text again", x.tower(0), 6);
        s.is("no deeds", x.count(DEEDS), 0);
        s.is("all whole", x.count(OVERS), 0);
        s.is("kept ones go", x.count(KEPT), 0);
        for (int k = 0; k <= 2; k++) {
            s.is("kept one " + k, x.on(k), FINDING);
        }
        s.is("bell 2 is as told", bell(x, 2, HEIGHT), 20);
        s.is("bell 0 has no strokes", bell(x, 0, STROKES), 0);
        s.is("rows stay", x.count(ROWS), 3);
        BellBalance y = rich();
        write(y, 3, "d3 g902 t800");
        s.is("another text", y.tower(3), 2);
        s.is("its damp", y.count(DAMP), 3);
        s.is("its kind", bell(y, 0, KIND), GREAT);
        s.is("its weight", bell(y, 1, WEIGHT), 8);
        s.is("its height", bell(y, 0, HEIGHT), 2);
        s.is("no third bell", y.bell(2, KIND), BAD);
        y.put(3, 4, '1');
        s.is("a text that is changed later changes nothing", bell(y, 0, WEIGHT), 9);

        s.says(11, "how many BELLS.");
        for (int n = 1; n <= 6; n++) {
            BellBalance z = new BellBalance();
            write(z, 2, "d0" + " h510".repeat(n));
            s.is(n + " of them", z.tower(2), n);
        }

        s.says(11, "BAD; NOTHING; STATE: a FAULT.");
        for (int t : new int[] {-1, 4, MIN, MAX}) {
            s.no(Scenes::rich, "text " + t, BAD, z -> z.tower(t));
        }
        s.finds(Scenes::rich, "missing", NOTHING, z -> z.tower(3));
        s.no(Scenes::rich, "a fault at the end", STATE, z -> z.tower(1));
        s.no(Scenes::rich, "an empty text", STATE, z -> z.tower(2));
        s.no(RowSentences::sevenBells, "seven bells", STATE, z -> z.tower(3));

        s.says(11, "(STATE behind NOTHING.)");
        s.finds(BellBalance::new, "missing is no fault", NOTHING, z -> z.tower(0));
    }

    private static BellBalance sevenBells() {
        BellBalance x = rich();
        write(x, 3, "d0" + "h510".repeat(7));
        return x;
    }

    private static void bell12(Sentences s) {
        s.says(12, "Of a BELL: 0 the KIND, 1 the WEIGHT, 2 the HEIGHT");
        String letters = "bhqngt";
        int[] weights = {4, 9, 1, 3, 8, 2};
        int[] heights = {12, 18, 20, 5, 16, 19};
        for (int k = 0; k < 6; k++) {
            int i = k;
            s.tells(() -> with(SIX), "kind of " + i, 1, LETTERS.indexOf(letters.charAt(i)), x -> x.bell(i, 0));
            s.tells(() -> with(SIX), "weight of " + i, 1, weights[i], x -> x.bell(i, 1));
            s.tells(() -> with(SIX), "height of " + i, 1, heights[i], x -> x.bell(i, 2));
        }
        s.aside(Scenes::rich, "nothing changes", 1, x -> x.bell(0, 2));

        s.says(12, "3 whether it is OVER (1, 0)");
        s.tells(() -> with(SIX), "whole", 1, 0, x -> x.bell(2, 3));
        s.tells(Scenes::rich, "over", 1, 1, x -> x.bell(2, 3));
        s.tells(Scenes::rich, "another one", 1, 0, x -> x.bell(3, 3));

        s.says(12, "4 whether it STANDS (1, 0)");
        s.tells(() -> with(SIX), "at 20", 1, 1, x -> x.bell(2, 4));
        s.tells(() -> with(SIX), "at 19", 1, 0, x -> x.bell(5, 4));
        s.tells(Scenes::rich, "over", 1, 0, x -> x.bell(2, 4));

        s.says(12, "5 how many STROKES it had");
        s.tells(() -> with(SIX), "none", 1, 0, x -> x.bell(2, 5));
        s.tells(Scenes::rich, "one by which its stay broke", 1, 1, x -> x.bell(2, 5));
        s.tells(Scenes::rich, "one in a round", 1, 1, x -> x.bell(0, 5));
        s.tells(Scenes::full, "39", 1, 39, x -> x.bell(0, 5));
        BellBalance x = full();
        x.undo(20);
        s.is("undone ones are none", bell(x, 0, STROKES), 19);
        x.mend(1);
        s.is("a mended stay is none", bell(x, 1, STROKES), 1);
        x.lots(3, 9);
        s.is("by lots", bell(x, 1, STROKES), 4);

        s.says(12, "told by asked(): 1.");
        s.tells(Scenes::rich, "told", 1, 18, y -> y.bell(1, HEIGHT));

        s.says(12, "BAD.");
        for (int i : new int[] {-1, 6, MIN, MAX}) {
            s.no(Scenes::rich, "bell " + i, BAD, y -> y.bell(i, 0));
        }
        s.no(() -> with("d0b100b100"), "the bell behind the last", BAD, y -> y.bell(2, 0));
        for (int what : new int[] {-1, 6, MIN, MAX}) {
            s.no(Scenes::rich, "what " + what, BAD, y -> y.bell(0, what));
        }
    }

    private static void mark13(Sentences s) {
        s.says(13, "What a BELL that IS of a KIND tells:");
        s.aside(Scenes::rich, "nothing changes", 1, x -> x.mark(4, GREAT));

        s.says(13, "a HEAVY one (GREAT, too) the greatest PULL by which its STAY would not break now");
        s.is(() -> with("d0h120"), "at 20: 20 + 2 - 1", 5, x -> x.mark(0, HEAVY));
        s.is(() -> with("d0h119"), "at 19: 19 + 3 - 1", 6, x -> x.mark(0, HEAVY));
        s.is(() -> with("d0h100"), "at 0", 6, x -> x.mark(0, HEAVY));
        s.is(() -> with("d0g120"), "great at 20", 5, x -> x.mark(0, HEAVY));
        s.is(() -> with("d0g119"), "great at 19", 6, x -> x.mark(0, HEAVY));

        s.says(13, "a QUICK one (TREBLE, too) how many PULLS of 1 bring it to STAND (0: it does)");
        s.is(() -> with("d0q120"), "at 20", 0, x -> x.mark(0, QUICK));
        s.is(() -> with("d0q119"), "at 19", 1, x -> x.mark(0, QUICK));
        s.is(() -> with("d0q100"), "at 0", 20, x -> x.mark(0, QUICK));
        s.is(() -> with("d0t120"), "treble at 20", 0, x -> x.mark(0, QUICK));
        s.is(() -> with("d0t107"), "treble at 7", 13, x -> x.mark(0, QUICK));

        s.says(13, "a BLIND one when it would STRIKE by a PULL of 1 (NONE: not)");
        s.is(() -> with("d0n105"), "at 5: 10 + 2 + 1", 13, x -> x.mark(0, BLIND));
        s.no(() -> with("d0n104"), "at 4", NONE, x -> x.mark(0, BLIND));
        s.is(() -> with("d3n920"), "at 20: 10 + 10 + 3 - 3 + 1", 21, x -> x.mark(0, BLIND));
        s.is(() -> with("d0b110n110"), "from its own pull", 16, x -> x.mark(1, BLIND));

        s.says(13, "a GREAT one how many others weigh as much or more");
        s.is(() -> with("d0g500"), "no others", 0, x -> x.mark(0, GREAT));
        s.is(() -> with("d0g500b400"), "less", 0, x -> x.mark(0, GREAT));
        s.is(() -> with("d0g500b500"), "as much", 1, x -> x.mark(0, GREAT));
        s.is(() -> with("d0g500b600"), "more", 1, x -> x.mark(0, GREAT));
        s.is(() -> with("d0b900q500g500t400h600n500"), "4 of 5", 4, x -> x.mark(2, GREAT));

        s.says(13, "a TREBLE how many others STRIKE sooner by a PULL of 1 each (of those that STRIKE so, as told from their PULLS; NONE: it does not).");
        s.is(() -> with("d0t109"), "no others: 10 + 5 - 1", 0, x -> x.mark(0, TREBLE));
        s.is(() -> with("d0t109b108b109"), "14: at 8 14, at 9 14", 0, x -> x.mark(0, TREBLE));
        s.is(() -> with("d0t109b107b106"), "14: at 7 13, at 6 13", 2, x -> x.mark(0, TREBLE));
        s.is(() -> with("d0t109b104b107"), "who does not strike is not sooner", 1, x -> x.mark(0, TREBLE));
        s.is(() -> with("d0b106b107t109b106"), "from their own pulls, wherever they stand", 3, x -> x.mark(2, TREBLE));
        s.is(() -> with("d0t120b120q120"), "20 by 21, others at 20: 10 + 10", 0, x -> x.mark(0, TREBLE));
        s.is(() -> with("d0t104"), "treble at 4: 5 by 1, 10 + 2 - 1", 0, x -> x.mark(0, TREBLE));
        s.no(() -> with("d0t103b110"), "treble at 3", NONE, x -> x.mark(0, TREBLE));

        s.says(13, "OVER ones as if they were not (at 0).");
        s.is(() -> broken("d0h120", 6), "heavy", 6, x -> x.mark(0, HEAVY));
        s.is(() -> broken("d0q120", 6), "quick", 20, x -> x.mark(0, QUICK));
        s.no(() -> broken("d0n120", 6), "blind", NONE, x -> x.mark(0, BLIND));
        s.is(() -> broken("d0g120b900", 6), "great", 1, x -> x.mark(0, GREAT));
        s.no(() -> broken("d0t120b110", 6), "treble", NONE, x -> x.mark(0, TREBLE));
        s.is(() -> broken("d0q920g500", 6), "another one weighs", 1, x -> x.mark(1, GREAT));
        s.is(() -> broken("d0b120t120b106", 6), "another one does not strike", 1, x -> x.mark(1, TREBLE));

        s.says(13, "BAD: also KIND 0");
        s.no(Scenes::rich, "kind 0", BAD, x -> x.mark(0, 0));
        for (int kind : new int[] {-1, 6, MIN, MAX}) {
            s.no(Scenes::rich, "kind " + kind, BAD, x -> x.mark(1, kind));
        }
        for (int i : new int[] {-1, 6, MIN, MAX}) {
            s.no(Scenes::rich, "bell " + i, BAD, x -> x.mark(i, HEAVY));
        }
        s.no(BellBalance::new, "no bells", BAD, x -> x.mark(0, HEAVY));

        s.says(13, "UNLIKE.");
        s.finds(Scenes::rich, "a heavy one is not great", UNLIKE, x -> x.mark(1, GREAT));
        s.finds(Scenes::rich, "a quick one is no treble, over", UNLIKE, x -> x.mark(2, TREBLE));
        s.finds(Scenes::rich, "a great one is not quick", UNLIKE, x -> x.mark(4, QUICK));
        s.finds(Scenes::rich, "a treble is not heavy", UNLIKE, x -> x.mark(5, HEAVY));
        s.finds(Scenes::rich, "a plain one is not blind", UNLIKE, x -> x.mark(0, BLIND));
    }

    private static BellBalance broken(String tower, int pull) {
        BellBalance x = with(tower);
        x.stroke(0, pull);
        return x;
    }

    private static void damp14(Sentences s) {
        s.says(14, "How DAMP the ropes are is v (0 .. 3): how they were.");
        BellBalance x = with("d2b110");
        for (int v : new int[] {0, 1, 2, 3, 3, 0}) {
            int was = x.count(DAMP);
            s.is("to " + v, x.damp(v), was);
            s.is("is " + v, x.count(DAMP), v);
            s.is("by " + v + " it strikes", x.strikes(0, 1), 15 - v);
        }

        s.says(14, "BAD");
        for (int v : new int[] {-1, 4, MIN, MAX}) {
            s.no(Scenes::rich, "damp " + v, BAD, y -> y.damp(v));
            s.no(BellBalance::new, "damp " + v + ", no bells", BAD, y -> y.damp(v));
        }

        s.says(14, "STATE: no BELLS.");
        s.no(BellBalance::new, "damp 0", STATE, y -> y.damp(0));
        s.no(BellBalance::new, "damp 3", STATE, y -> y.damp(3));
    }
}
