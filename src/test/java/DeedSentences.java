/** Sentences of promises 15 to 20: deeds, and towers kept. */
final class DeedSentences extends Scenes {
    private DeedSentences() {
    }

    static void test(Sentences s) {
        stroke15(s);
        round16(s);
        mend17(s);
        undo18(s);
        keep19(s);
        on20(s);
    }

    private static void stroke15(Sentences s) {
        s.says(15, "A STROKE of a BELL: its HEIGHT then.");
        BellBalance x = with("d0b112q119");
        s.is("12 + 6 - 1", x.stroke(0, 6), 17);
        s.is("its height", bell(x, 0, HEIGHT), 17);
        s.is("its strokes", bell(x, 0, STROKES), 1);
        s.is("the other one's height", bell(x, 1, HEIGHT), 19);
        s.is("the other one's strokes", bell(x, 1, STROKES), 0);
        s.is("at 21", x.stroke(1, 2), 20);
        s.is("broken", x.stroke(1, 2), 0);
        s.is("deeds", x.count(DEEDS), 3);
        for (int i = 0; i < 6; i++) {
            for (int pull = 0; pull <= 6; pull++) {
                everyStroke(s, i, pull);
            }
        }

        s.says(15, "BAD");
        for (int i : new int[] {-1, 6, MIN, MAX}) {
            s.no(Scenes::rich, "bell " + i, BAD, y -> y.stroke(i, 0));
        }
        s.no(() -> with("d0b100b100"), "the bell behind the last", BAD, y -> y.stroke(2, 0));
        s.no(BellBalance::new, "no bells", BAD, y -> y.stroke(0, 0));
        for (int pull : new int[] {-1, 7, MIN, MAX}) {
            s.no(Scenes::rich, "pull " + pull, BAD, y -> y.stroke(0, pull));
            s.no(Scenes::rich, "pull " + pull + ", ahead of STATE", BAD, y -> y.stroke(2, pull));
            s.no(Scenes::full, "pull " + pull + ", ahead of FULL", BAD, y -> y.stroke(0, pull));
        }

        s.says(15, "STATE: it is OVER");
        for (int pull = 0; pull <= 6; pull++) {
            int p = pull;
            s.no(Scenes::rich, "by " + p, STATE, y -> y.stroke(2, p));
        }

        s.says(15, "FULL: 40 DEEDS.");
        s.no(Scenes::full, "the 41st", FULL, y -> y.stroke(0, 0));
        s.no(Scenes::full, "the 41st, by 6", FULL, y -> y.stroke(0, 6));
        s.is(DeedSentences::fullButOne, "the 40th", 5, y -> y.stroke(0, 0));
        BellBalance z = full();
        z.undo(39);
        z.stroke(0, 1);
        s.is("undone and done: full again", z.stroke(0, 0), FULL);

        s.says(15, "(FULL last.)");
        s.no(Scenes::full, "STATE ahead", STATE, y -> y.stroke(1, 0));
        s.no(Scenes::full, "BAD ahead", BAD, y -> y.stroke(2, 0));
    }

    /* Each bell by each pull: it alone swings, and by the first deed undone it is as it was. */
    private static void everyStroke(Sentences s, int i, int pull) {
        BellBalance x = with("d0q101q102q103q104q105q106");
        String what = "bell " + i + " by " + pull;
        s.is(what, x.stroke(i, pull), 1 + i + pull);
        for (int k = 0; k < 6; k++) {
            s.is(what + ", height of " + k, bell(x, k, HEIGHT), 1 + k + (k == i ? pull : 0));
            s.is(what + ", strokes of " + k, bell(x, k, STROKES), k == i ? 1 : 0);
        }
        s.is(what + ", undone", x.undo(0), 1);
        s.is(what + ", undone, height", bell(x, i, HEIGHT), 1 + i);
    }

    private static BellBalance fullButOne() {
        BellBalance x = full();
        x.undo(39);
        return x;
    }

    private static void round16(Sentences s) {
        s.says(16, "A ROUND by PULLS in a ROW: BELLS that are HEARD (bits).");
        BellBalance x = with("d0b104b105q120t119b100n110", 1, 1, 2, 2, 6, 0);
        s.is("4, 5, broken, 21, 5, 9", x.round(0), 2 + 8 + 16 + 32);
        int[] heights = {4, 5, 0, 20, 5, 9};
        for (int i = 0; i < 6; i++) {
            s.is("height of " + i, bell(x, i, HEIGHT), heights[i]);
            s.is("strokes of " + i, bell(x, i, STROKES), 1);
        }
        s.is("who broke", bell(x, 2, OVER), 1);
        s.is("one deed", x.count(DEEDS), 1);
        s.row("the row stays", x, 0, 1, 1, 2, 2, 6, 0);
        s.is("again, without the one that is over", x.round(0), 2 + 16 + 32);
        s.is("a treble that stood breaks", bell(x, 3, OVER), 1);
        s.is("who was over has no stroke", bell(x, 2, STROKES), 1);
        s.is(() -> with("d0b100b100", 0, 0), "nobody", 0, y -> y.round(0));
        s.is(() -> with("d0q120", 6), "one that breaks", 0, y -> y.round(0));
        BellBalance w = allOver();
        s.is("all over", w.round(0), 0);
        s.is("all over: a deed all the same", w.count(DEEDS), 3);
        BellBalance v = with("d0q100q101q102q103q104q105", 6, 5, 4, 3, 2, 1);
        s.is("six unlike pulls", v.round(0), 63);
        for (int i = 0; i < 6; i++) {
            s.is("six unlike pulls, height of " + i, bell(v, i, HEIGHT), 6);
        }
        v.row(0, 6);
        s.is("six pulls of 0", v.round(0), 63);
        s.is("six pulls of 0, the last one's strokes", bell(v, 5, STROKES), 2);
        lay(v, 0, 6, 6, 6, 6, 6, 6);
        s.is("six pulls of 6", v.round(0), 63);
        s.is("six pulls of 6, the last one's height", bell(v, 5, HEIGHT), 12);
        for (int behind : new int[] {MIN, -1, 7, MAX}) {
            BellBalance u = with("d0q110q110", 1, 2, behind, behind);
            lay(u, 0, 1, 2);
            s.is("the row held " + behind + " behind its end before", u.round(0), 3);
            s.is("the row held " + behind + " behind its end before, the first one's height", bell(u, 0, HEIGHT), 11);
            s.is("the row held " + behind + " behind its end before, the last one's height", bell(u, 1, HEIGHT), 12);
        }

        s.says(16, "BAD");
        for (int r : new int[] {-1, 6, MIN, MAX}) {
            s.no(Scenes::rich, "row " + r, BAD, y -> y.round(r));
        }

        s.says(16, "STATE: no BELLS");
        s.no(DeedSentences::rowAlone, "a row of none", STATE, y -> y.round(0));
        s.no(DeedSentences::rowAlone, "a row", STATE, y -> y.round(1));

        s.says(16, "NOTHING");
        s.finds(Scenes::rich, "missing", NOTHING, y -> y.round(3));

        s.says(16, "SIZE: not as many");
        s.finds(() -> with("d0b110b110", 1), "one too few", SIZE, y -> y.round(0));
        s.finds(() -> with("d0b110b110", 1, 1, 1), "one too many", SIZE, y -> y.round(0));
        s.finds(Scenes::rich, "none", SIZE, y -> y.round(2));
        s.finds(() -> with("d0b110", new int[40]), "40", SIZE, y -> y.round(0));

        s.says(16, "UNLIKE: no PULL");
        for (int pull : new int[] {-1, 7, MIN, MAX}) {
            s.finds(() -> with("d0b110b110", pull, 1), "first " + pull, UNLIKE, y -> y.round(0));
            s.finds(() -> with("d0b110b110", 1, pull), "last " + pull, UNLIKE, y -> y.round(0));
        }

        s.says(16, "FULL.");
        s.no(Scenes::full, "the 41st", FULL, y -> y.round(0));
        s.is(DeedSentences::fullButOne, "the 40th", 1, y -> y.round(0));

        s.says(16, "(In this order.)");
        s.no(BellBalance::new, "BAD ahead of STATE", BAD, y -> y.round(6));
        s.no(BellBalance::new, "STATE ahead of NOTHING", STATE, y -> y.round(0));
        s.no(DeedSentences::rowAlone, "STATE ahead of UNLIKE", STATE, y -> y.round(1));
        s.finds(() -> with("d0b110", 7, 7), "SIZE ahead of UNLIKE", SIZE, y -> y.round(0));
        s.no(Scenes::full, "BAD ahead of FULL", BAD, y -> y.round(6));
        s.finds(Scenes::full, "NOTHING ahead of FULL", NOTHING, y -> y.round(1));
        s.finds(() -> fullWithRow(1), "SIZE ahead of FULL", SIZE, y -> y.round(0));
        s.finds(() -> fullWithRow(1, 7), "UNLIKE ahead of FULL", UNLIKE, y -> y.round(0));
    }

    private static BellBalance allOver() {
        BellBalance x = with("d0q120q120", 0, 0);
        x.stroke(0, 6);
        x.stroke(1, 6);
        return x;
    }

    private static BellBalance rowAlone() {
        BellBalance x = new BellBalance();
        x.row(0, 0);
        lay(x, 1, 9);
        return x;
    }

    private static BellBalance fullWithRow(int... row) {
        BellBalance x = full();
        lay(x, 0, row);
        return x;
    }

    private static void mend17(Sentences s) {
        s.says(17, "A STAY is MENDED: 1.");
        BellBalance x = rich();
        s.is("mend", x.mend(2), 1);
        s.is("whole", bell(x, 2, OVER), 0);
        s.is("at 0", bell(x, 2, HEIGHT), 0);
        s.is("its strokes", bell(x, 2, STROKES), 1);
        s.is("a deed", x.count(DEEDS), 3);
        s.is("none is over", x.count(OVERS), 0);
        for (int i = 0; i < 6; i++) {
            BellBalance y = with("d0q120q120q120q120q120q120", 6, 6, 6, 6, 6, 6);
            y.round(0);
            s.is("bell " + i, y.mend(i), 1);
            for (int k = 0; k < 6; k++) {
                s.is("bell " + i + ", over is " + k, bell(y, k, OVER), k == i ? 0 : 1);
                s.is("bell " + i + ", strokes of " + k, bell(y, k, STROKES), 1);
            }
            s.is("bell " + i + ", deeds", y.count(DEEDS), 2);
        }

        s.says(17, "BAD");
        for (int i : new int[] {-1, 6, MIN, MAX}) {
            s.no(Scenes::rich, "bell " + i, BAD, y -> y.mend(i));
        }
        s.no(BellBalance::new, "no bells", BAD, y -> y.mend(0));

        s.says(17, "STATE: the BELL is not OVER");
        s.no(Scenes::rich, "one at 12", STATE, y -> y.mend(0));
        s.no(() -> with("d0b120b100"), "one that stands", STATE, y -> y.mend(0));
        s.no(() -> with("d0b120b100"), "one at 0", STATE, y -> y.mend(1));
        s.no(DeedSentences::mended, "one that is mended", STATE, y -> y.mend(2));

        s.says(17, "FULL.");
        s.no(Scenes::full, "the 41st", FULL, y -> y.mend(1));
        s.is(DeedSentences::fullButOne, "the 40th", 1, y -> y.mend(1));

        s.says(17, "(FULL last.)");
        s.no(Scenes::full, "STATE ahead", STATE, y -> y.mend(0));
        s.no(Scenes::full, "BAD ahead", BAD, y -> y.mend(2));
    }

    private static BellBalance mended() {
        BellBalance x = rich();
        x.mend(2);
        return x;
    }

    /* A round, a stroke that breaks, a mending, a stroke; the damp is changed between. */
    private static BellBalance fourDeeds() {
        BellBalance x = with("d0q115b110", 6, 6);
        x.round(0);
        x.stroke(0, 2);
        x.damp(3);
        x.mend(0);
        x.stroke(0, 5);
        return x;
    }

    private static void undo18(Sentences s) {
        s.says(18, "DEEDS from number n on (0 to how many there are: none then) are undone");
        int[] heights = {15, 20, 0, 0, 5};
        int[] others = {10, 15, 15, 15, 15};
        int[] overs = {0, 0, 1, 0, 0};
        int[] strokes = {0, 1, 2, 2, 3};
        for (int n = 0; n <= 4; n++) {
            BellBalance x = fourDeeds();
            s.is("from " + n + " on", x.undo(n), 4 - n);
            s.is("from " + n + " on, deeds", x.count(DEEDS), n);
            s.is("from " + n + " on, height", bell(x, 0, HEIGHT), heights[n]);
            s.is("from " + n + " on, the other one's", bell(x, 1, HEIGHT), others[n]);
            s.is("from " + n + " on, over", bell(x, 0, OVER), overs[n]);
            s.is("from " + n + " on, strokes", bell(x, 0, STROKES), strokes[n]);
        }
        s.no(DeedSentences::fourDeeds, "from 4 on: none", 0, x -> x.undo(4));
        s.is(Scenes::full, "all 40", 40, x -> x.undo(0));
        s.no(Scenes::rich, "from 2 on: none", 0, x -> x.undo(2));
        s.no(() -> with("d0b110"), "of none", 0, x -> x.undo(0));
        s.no(BellBalance::new, "without bells", 0, x -> x.undo(0));
        BellBalance y = fourDeeds();
        y.undo(1);
        y.stroke(1, 2);
        s.is("done anew", y.count(DEEDS), 2);
        y.undo(1);
        s.is("and undone", bell(y, 1, HEIGHT), 15);
        BellBalance w = rich();
        w.undo(0);
        s.is("kept ones stay", w.count(KEPT), 2);
        s.is("with their deeds", w.on(2), 2);

        BellBalance v = rich();
        v.undo(1);
        s.is("the rows stay", v.mean(1), 1);
        s.is("the texts stay", v.fault(1), 10);
        s.is("the latest finding stays", v.finding(), NOTHING);

        s.says(18, "(the DAMP stays)");
        BellBalance z = fourDeeds();
        z.undo(0);
        s.is("damp", z.count(DAMP), 3);

        s.says(18, "how many.");
        s.is(DeedSentences::fourDeeds, "from 1 on", 3, x -> x.undo(1));

        s.says(18, "BAD.");
        for (int n : new int[] {-1, 5, MIN, MAX}) {
            s.no(DeedSentences::fourDeeds, "from " + n + " on", BAD, x -> x.undo(n));
        }
        s.no(Scenes::rich, "from 3 on, of 2", BAD, x -> x.undo(3));
        s.no(BellBalance::new, "from 1 on, of none", BAD, x -> x.undo(1));
        s.no(Scenes::full, "from 41 on, of 40", BAD, x -> x.undo(41));
    }

    private static void keep19(Sentences s) {
        s.says(19, "The TOWER (BELLS, DEEDS, the DAMP) is kept in a place (0 .. 2): how many DEEDS.");
        for (int k = 0; k <= 2; k++) {
            BellBalance x = fourDeeds();
            s.is("place " + k, x.keep(k), 4);
            s.is("place " + k + ", one", x.count(KEPT), 1);
            s.is("place " + k + ", the tower goes on", x.count(DEEDS), 4);
            x.undo(0);
            x.damp(1);
            x.stroke(1, 0);
            s.is("place " + k + ", on", x.on(k), 4);
            s.is("place " + k + ", the height", bell(x, 0, HEIGHT), 5);
            s.is("place " + k + ", the damp", x.count(DAMP), 3);
            s.is("place " + k + ", its deeds", x.undo(2), 2);
            s.is("place " + k + ", as they were", bell(x, 0, OVER), 1);
        }
        s.is(() -> with("d0b110"), "no deeds", 0, x -> x.keep(0));
        s.is(Scenes::full, "40 deeds", 40, x -> x.keep(2));
        BellBalance y = fourDeeds();
        y.keep(1);
        y.undo(2);
        s.is("over an earlier one", y.keep(1), 2);
        s.is("one", y.count(KEPT), 1);
        s.is("the later one", y.on(1), 2);
        s.is(DeedSentences::threeKept, "three", 3, x -> x.count(KEPT));

        s.says(19, "BAD");
        for (int k : new int[] {-1, 3, MIN, MAX}) {
            s.no(Scenes::rich, "place " + k, BAD, x -> x.keep(k));
            s.no(BellBalance::new, "place " + k + ", ahead of STATE", BAD, x -> x.keep(k));
        }

        s.says(19, "STATE: no BELLS.");
        for (int place = 0; place <= 2; place++) {
            int k = place;
            s.no(BellBalance::new, "place " + k, STATE, x -> x.keep(k));
        }
    }

    private static BellBalance threeKept() {
        BellBalance x = fourDeeds();
        for (int k = 2; k >= 0; k--) {
            x.keep(k);
            x.undo(k);
        }
        return x;
    }

    private static void on20(Sentences s) {
        s.says(20, "The TOWER is as it was kept: how many DEEDS.");
        BellBalance x = threeKept();
        int[] deeds = {1, 2, 4};
        for (int k = 0; k <= 2; k++) {
            s.is("place " + k, x.on(k), deeds[k]);
            s.is("place " + k + ", deeds", x.count(DEEDS), deeds[k]);
        }
        s.is("they are kept still", x.count(KEPT), 3);
        s.is("its bells", bell(x, 0, HEIGHT), 5);
        x.stroke(0, 1);
        x.stroke(1, 6);
        x.damp(0);
        s.is("what is done later does not go to the kept one", x.on(2), 4);
        s.is("the height as kept", bell(x, 0, HEIGHT), 5);
        s.is("the damp as kept", x.count(DAMP), 3);
        s.is("its deeds, undone", x.undo(0), 4);
        s.is("the height at first", bell(x, 0, HEIGHT), 15);
        s.is("the kept one is still as it was", x.on(2), 4);
        BellBalance v = rich();
        v.keep(1);
        v.mend(2);
        v.stroke(2, 6);
        v.stroke(0, 6);
        s.is("with one over", v.on(1), 2);
        s.is("over as kept", bell(v, 2, OVER), 1);
        s.is("its strokes as kept", bell(v, 2, STROKES), 1);
        s.is("another one's strokes as kept", bell(v, 0, STROKES), 1);
        s.is("another one's height as kept", bell(v, 0, HEIGHT), 12);
        s.is("its kind", bell(v, 4, KIND), GREAT);
        s.is("its weight", bell(v, 4, WEIGHT), 8);
        BellBalance y = full();
        y.keep(0);
        y.undo(0);
        y.on(0);
        s.is("40 deeds: full", y.stroke(0, 0), FULL);
        BellBalance z = rich();
        z.tear(0);
        z.on(0);
        s.is("rows are none of it", z.count(ROWS), 2);
        s.is("texts are none of it", z.count(TEXTS), 3);

        s.says(20, "BAD");
        for (int k : new int[] {-1, 3, MIN, MAX}) {
            s.no(Scenes::rich, "place " + k, BAD, w -> w.on(k));
        }

        s.says(20, "NOTHING.");
        s.finds(Scenes::rich, "a place without", NOTHING, w -> w.on(1));
        s.finds(BellBalance::new, "no bells, either", NOTHING, w -> w.on(0));
        s.finds(DeedSentences::anotherTower, "gone with a new tower", NOTHING, w -> w.on(0));
    }

    private static BellBalance anotherTower() {
        BellBalance x = rich();
        x.tower(0);
        return x;
    }
}
