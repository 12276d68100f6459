/** Each promise by its number: ordinary inputs, the edges that the document names, wrong inputs. The values are reckoned by hand. */
public final class PromiseTests {
    private static final Due DUE = new Due("PromiseTests");
    private static final int BAD = -1, FULL = -2, FINDING = -3, STATE = -4, NONE = -9;
    private static final int NOTHING = 1, BEYOND = 2, UNLIKE = 3, NOUGHT = 4, SIZE = 5;
    private static final int MIN = Integer.MIN_VALUE, MAX = Integer.MAX_VALUE;
    private static final String SIX = "d1 b412 h918 q120 n305 g816 t219";

    public static void main(String[] args) {
        rowsOneToSeven();
        textsEightToEleven();
        bellsTwelveToFourteen();
        deedsFifteenToEighteen();
        keptNineteenToTwenty();
        oneBellTwentyOneToTwentyTwo();
        pathsTwentyThreeToTwentyFive();
        oneBellTwentySixToTwentyEight();
        roundsTwentyNineToThirtyFour();
        evenThirtyOneToThirtyThree();
        turnsThirtyFiveToThirtySix();
        toldThirtySevenToThirtyNine();
        broke40();
        slipsFortyOneToFortyTwo();
        lots43();
        tellsFortyFourToFortyNine();
        digest50();
        DUE.end();
    }

    private static void due(int promise, String what, long got, long want) {
        DUE.is("promise " + promise + ": " + what, got, want);
    }

    private static BellBalance with(String tower) {
        BellBalance x = new BellBalance();
        write(x, 0, tower);
        x.tower(0);
        return x;
    }

    private static void write(BellBalance x, int t, String s) {
        x.text(t, s.length());
        for (int i = 0; i < s.length(); i++) {
            x.put(t, i, s.charAt(i));
        }
    }

    private static int fault(String s) {
        BellBalance x = new BellBalance();
        write(x, 3, s);
        return x.fault(3);
    }

    private static void lay(BellBalance x, int r, int... v) {
        x.row(r, v.length);
        for (int i = 0; i < v.length; i++) {
            x.lay(r, i, v[i]);
        }
    }

    /* The row's places, and that there are no more; asked() is spent by it. */
    private static void holds(int promise, BellBalance x, int r, int... v) {
        for (int i = 0; i < v.length; i++) {
            due(promise, "place " + i, x.at(r, i), 1);
            due(promise, "place " + i, x.asked(), v[i]);
        }
        due(promise, "no more places", x.at(r, v.length), FINDING);
        due(promise, "no more places", x.finding(), BEYOND);
    }

    private static void finds(int promise, String what, BellBalance x, int got, int finding) {
        due(promise, what, got, FINDING);
        due(promise, what + ", finding()", x.finding(), finding);
    }

    private static int bell(BellBalance x, int i, int what) {
        x.bell(i, what);
        return x.asked();
    }

    private static void rowsOneToSeven() {
        BellBalance x = new BellBalance();
        for (int k = 0; k <= 8; k++) {
            due(1, "count " + k, x.count(k), 0);
        }
        for (int r = 0; r <= 5; r++) {
            finds(1, "at", x, x.at(r, 0), NOTHING);
        }
        for (int t = 0; t <= 3; t++) {
            finds(1, "fault", x, x.fault(t), NOTHING);
        }
        due(1, "bell", x.bell(0, 0), BAD);
        due(2, "row", x.row(0, 40), 40);
        due(2, "row", x.row(5, 0), 0);
        due(2, "a number above", x.row(6, 1), BAD);
        due(2, "a number below", x.row(-1, 1), BAD);
        due(2, "above 40", x.row(1, 41), BAD);
        due(2, "BAD ahead of SIZE", x.row(6, -1), BAD);
        finds(2, "below 0", x, x.row(1, -1), SIZE);
        finds(2, "below 0", x, x.row(1, MIN), SIZE);
        due(2, "refused: still missing", x.count(6), 2);
        due(3, "lay", x.lay(0, 39, 7), 1);
        due(3, "what it was", x.asked(), 0);
        due(3, "lay", x.lay(0, 39, -8), 1);
        due(3, "what it was", x.asked(), 7);
        due(3, "BAD", x.lay(6, 0, 1), BAD);
        finds(3, "missing", x, x.lay(1, 0, 1), NOTHING);
        finds(3, "beyond", x, x.lay(0, 40, 1), BEYOND);
        finds(3, "below", x, x.lay(0, -1, 1), BEYOND);
        finds(3, "of none", x, x.lay(5, 0, 1), BEYOND);
        due(3, "refused: asked stays", x.asked(), 7);
        due(4, "at", x.at(0, 39), 1);
        due(4, "at", x.asked(), -8);
        due(4, "BAD", x.at(-1, 0), BAD);
        finds(4, "beyond", x, x.at(0, 40), BEYOND);
        finds(4, "beyond", x, x.at(0, MAX), BEYOND);
        finds(4, "missing ahead of beyond", x, x.at(1, 99), NOTHING);
        due(2, "anew", x.row(0, 40), 40);
        due(2, "anew", x.at(0, 39), 1);
        due(2, "all 0", x.asked(), 0);
        due(5, "tear", x.tear(0), 1);
        finds(5, "torn", x, x.tear(0), NOTHING);
        due(5, "BAD", x.tear(6), BAD);
        due(5, "count", x.count(6), 1);
        copy6();
        mean7();
    }

    private static void copy6() {
        BellBalance x = new BellBalance();
        lay(x, 0, 1, 2, 3, 4, 5);
        lay(x, 1, 9, 9, 9);
        due(6, "copy", x.copy(0, 1, 1, 1, 2), 1);
        holds(6, x, 1, 9, 2, 3);
        due(6, "itself, on", x.copy(0, 0, 0, 1, 4), 1);
        holds(6, x, 0, 1, 1, 2, 3, 4);
        due(6, "itself, back", x.copy(0, 1, 0, 0, 4), 1);
        holds(6, x, 0, 1, 2, 3, 4, 4);
        due(6, "none, at the ends", x.copy(0, 5, 1, 3, 0), 1);
        finds(6, "none, above the size", x, x.copy(0, 6, 1, 0, 0), BEYOND);
        finds(6, "none, above the other size", x, x.copy(0, 0, 1, 4, 0), BEYOND);
        finds(6, "none, below", x, x.copy(0, -1, 1, 0, 0), BEYOND);
        finds(6, "none, below", x, x.copy(0, 0, 1, -1, 0), BEYOND);
        finds(6, "too many of the one", x, x.copy(1, 1, 0, 0, 3), BEYOND);
        finds(6, "too many of the other", x, x.copy(0, 0, 1, 1, 3), BEYOND);
        finds(6, "sums that wrap", x, x.copy(0, MAX, 1, 1, MAX), BEYOND);
        finds(6, "n at its most", x, x.copy(0, 1, 1, 1, MAX), BEYOND);
        finds(6, "SIZE ahead of NOTHING", x, x.copy(2, 0, 3, 0, -1), SIZE);
        finds(6, "either missing", x, x.copy(0, 0, 3, 99, 1), NOTHING);
        finds(6, "either missing", x, x.copy(3, 99, 0, 0, 1), NOTHING);
        due(6, "BAD ahead of SIZE", x.copy(0, 0, 6, 0, -1), BAD);
        due(6, "BAD", x.copy(-1, 0, 0, 0, 1), BAD);
        holds(6, x, 0, 1, 2, 3, 4, 4);
        holds(6, x, 1, 9, 2, 3);
    }

    private static void mean7() {
        BellBalance x = new BellBalance();
        lay(x, 0, 3, 4, 4);
        due(7, "mean", x.mean(0), 1);
        due(7, "cut", x.asked(), 3);
        lay(x, 0, -3, -4);
        due(7, "mean", x.mean(0), 1);
        due(7, "cut toward 0", x.asked(), -3);
        lay(x, 0, MAX, MAX, MAX);
        due(7, "mean", x.mean(0), 1);
        due(7, "no wrap", x.asked(), MAX);
        lay(x, 0, MIN, MIN);
        due(7, "mean", x.mean(0), 1);
        due(7, "no wrap", x.asked(), MIN);
        x.row(0, 0);
        finds(7, "of none", x, x.mean(0), NOUGHT);
        finds(7, "missing", x, x.mean(1), NOTHING);
        due(7, "BAD", x.mean(6), BAD);
        due(7, "refused: asked stays", x.asked(), MIN);
    }

    private static void textsEightToEleven() {
        BellBalance x = new BellBalance();
        due(8, "text", x.text(0, 60), 60);
        due(8, "text", x.text(3, 0), 0);
        due(8, "above 60", x.text(1, 61), BAD);
        due(8, "BAD", x.text(4, 1), BAD);
        due(8, "BAD", x.text(-1, -1), BAD);
        finds(8, "below 0", x, x.text(1, -1), SIZE);
        due(8, "count", x.count(7), 2);
        due(9, "a blank", x.put(0, 59, 200), 1032);
        due(9, "cut to a byte", x.put(0, 59, -129), 944);
        due(9, "cut to a byte", x.put(0, 59, 127), 1127);
        due(9, "cut to a byte", x.put(0, 59, -128), 1127);
        due(9, "least", x.put(0, 59, 0), 872);
        due(9, "BAD", x.put(4, 0, 0), BAD);
        finds(9, "missing", x, x.put(1, 0, 0), NOTHING);
        finds(9, "beyond", x, x.put(0, 60, 0), BEYOND);
        finds(9, "below", x, x.put(0, -1, 0), BEYOND);
        faults10();
        tower11();
    }

    private static void faults10() {
        due(10, "none", fault(SIX), NONE);
        due(10, "close", fault("d3b100g904q203"), NONE);
        due(10, "blanks around", fault("   d0   t120  "), NONE);
        due(10, "empty", fault(""), 0);
        due(10, "blanks alone", fault("     "), 5);
        due(10, "no d", fault("  b412"), 2);
        due(10, "d alone", fault("d"), 1);
        due(10, "damp 4", fault("d4 b100"), 1);
        due(10, "blank within", fault("d 1b100"), 1);
        due(10, "two figures", fault("d10 b100"), 2);
        due(10, "no bells", fault("d1"), 2);
        due(10, "no bells, blanks", fault("d1   "), 5);
        due(10, "no letter", fault("d1 x100"), 3);
        due(10, "a great letter", fault("d1 B100"), 3);
        due(10, "weight 0", fault("d1 b000"), 4);
        due(10, "no weight", fault("d1 b 00"), 4);
        due(10, "height 30", fault("d1 b130"), 5);
        due(10, "height 21", fault("d1 b121"), 6);
        due(10, "height 20", fault("d1 b120"), NONE);
        due(10, "height 19", fault("d1 b119"), NONE);
        due(10, "blank in the height", fault("d1 b11 9"), 6);
        due(10, "end in the height", fault("d1 b11"), 6);
        due(10, "end in the weight", fault("d1 b"), 4);
        due(10, "a figure too many", fault("d1 b1111"), 7);
        due(10, "six", fault("d1b101b102b103b104b105b106"), NONE);
        due(10, "a seventh", fault("d1b101b102b103b104b105b106 b107"), 27);
        due(10, "a second d", fault("d1 b101 d1"), 8);
        BellBalance x = new BellBalance();
        due(10, "BAD", x.fault(4), BAD);
        due(10, "BAD", x.fault(-1), BAD);
        finds(10, "missing", x, x.fault(0), NOTHING);
    }

    private static void tower11() {
        BellBalance x = new BellBalance();
        write(x, 0, SIX);
        due(11, "tower", x.tower(0), 6);
        x.stroke(2, 6);
        x.keep(0);
        x.keep(1);
        x.keep(2);
        due(11, "deeds", x.count(2), 1);
        due(11, "over", x.count(3), 1);
        write(x, 1, "d2 h704 g1");
        due(11, "a fault", x.tower(1), STATE);
        due(11, "refused: all stays", x.count(8), 3);
        due(11, "refused: all stays", x.count(0), 6);
        due(11, "BAD", x.tower(4), BAD);
        finds(11, "missing", x, x.tower(2), NOTHING);
        write(x, 1, "d2 h704");
        due(11, "anew", x.tower(1), 1);
        due(11, "damp", x.count(1), 2);
        due(11, "no deeds", x.count(2), 0);
        due(11, "none over", x.count(3), 0);
        due(11, "kept ones go", x.count(8), 0);
        finds(11, "kept ones go", x, x.on(1), NOTHING);
        due(11, "kind", bell(x, 0, 0), 1);
        due(11, "weight", bell(x, 0, 1), 7);
        due(11, "height", bell(x, 0, 2), 4);
    }

    private static void bellsTwelveToFourteen() {
        BellBalance x = with(SIX);
        int[] kinds = {0, 1, 2, 3, 4, 5};
        int[] weights = {4, 9, 1, 3, 8, 2};
        int[] heights = {12, 18, 20, 5, 16, 19};
        for (int i = 0; i < 6; i++) {
            due(12, "kind", bell(x, i, 0), kinds[i]);
            due(12, "weight", bell(x, i, 1), weights[i]);
            due(12, "height", bell(x, i, 2), heights[i]);
            due(12, "over", bell(x, i, 3), 0);
            due(12, "stands", bell(x, i, 4), i == 2 ? 1 : 0);
            due(12, "strokes", bell(x, i, 5), 0);
        }
        x.stroke(2, 2);
        due(12, "answers", x.bell(2, 3), 1);
        due(12, "over", x.asked(), 1);
        due(12, "stands no more", bell(x, 2, 4), 0);
        due(12, "at 0", bell(x, 2, 2), 0);
        due(12, "its stroke", bell(x, 2, 5), 1);
        due(12, "BAD", x.bell(6, 0), BAD);
        due(12, "BAD", x.bell(-1, 0), BAD);
        due(12, "BAD", x.bell(0, 6), BAD);
        due(12, "BAD", x.bell(0, -1), BAD);
        marks13();
        damp14();
    }

    private static void marks13() {
        BellBalance x = with(SIX);
        due(13, "heavy", x.mark(1, 1), 6);
        due(13, "quick at the top", x.mark(2, 2), 0);
        due(13, "blind", x.mark(3, 3), 13);
        due(13, "great, as heavy", x.mark(4, 1), 6);
        due(13, "great", x.mark(4, 4), 1);
        due(13, "treble, as quick", x.mark(5, 2), 1);
        due(13, "treble", x.mark(5, 5), 2);
        due(13, "kind 0", x.mark(0, 0), BAD);
        due(13, "kind 6", x.mark(0, 6), BAD);
        due(13, "no bell", x.mark(6, 1), BAD);
        finds(13, "a heavy one is not great", x, x.mark(1, 4), UNLIKE);
        finds(13, "a quick one is no treble", x, x.mark(2, 5), UNLIKE);
        finds(13, "a plain one", x, x.mark(0, 3), UNLIKE);
        BellBalance y = with("d0 h120 h119 n104 n105 g500 g500 ");
        due(13, "heavy at 20: 20 + 3 - 1 breaks, 20 + 2 - 1 does not", y.mark(0, 1), 5);
        due(13, "heavy at 19", y.mark(1, 1), 6);
        due(13, "blind too low", y.mark(2, 3), NONE);
        due(13, "blind at 5: 10 + 2 + 0 + 1", y.mark(3, 3), 13);
        due(13, "as much", y.mark(4, 4), 1);
        BellBalance z = with("d3 t120 b912 q505 t103");
        due(13, "treble at the top: 16; 10+6+3-3 = 16, 10+3+1-3 = 11", z.mark(0, 5), 1);
        due(13, "treble too low", z.mark(3, 5), NONE);
        z.stroke(0, 6);
        due(13, "over, at 0", z.mark(0, 5), NONE);
        due(13, "over, at 0", z.mark(0, 2), 20);
    }

    private static void damp14() {
        BellBalance x = new BellBalance();
        due(14, "no bells", x.damp(1), STATE);
        due(14, "BAD ahead", x.damp(4), BAD);
        x = with("d2 b110");
        due(14, "damp", x.damp(3), 2);
        due(14, "damp", x.damp(0), 3);
        due(14, "BAD", x.damp(-1), BAD);
        due(14, "strikes by it", x.strikes(0, 1), 15);
        due(14, "no deed", x.count(2), 0);
    }

    private static void deedsFifteenToEighteen() {
        BellBalance x = with("d0 b100 h110 q110 n120 g120 t120");
        due(15, "0 at least", x.stroke(0, 0), 0);
        due(15, "plain", x.stroke(0, 6), 5);
        due(15, "heavy by half, cut", x.stroke(1, 5), 11);
        due(15, "quick", x.stroke(2, 0), 10);
        due(15, "quick", x.stroke(2, 3), 13);
        due(15, "blind at 20 by 2: 21 is 20", x.stroke(3, 2), 20);
        due(15, "blind at 20 by 3 breaks", x.stroke(3, 3), 0);
        due(15, "it is over", bell(x, 3, 3), 1);
        due(15, "STATE", x.stroke(3, 0), STATE);
        due(15, "BAD ahead of STATE", x.stroke(3, 7), BAD);
        due(15, "great at 20 by 5", x.stroke(4, 5), 20);
        due(15, "great at 20 by 6 breaks", x.stroke(4, 6), 0);
        due(15, "treble at 20 by 1", x.stroke(5, 1), 20);
        due(15, "treble at 20 by 2 breaks", x.stroke(5, 2), 0);
        due(15, "no bell", x.stroke(6, 0), BAD);
        due(15, "no pull", x.stroke(0, -1), BAD);
        due(15, "deeds", x.count(2), 11);
        for (int k = 11; k < 40; k++) {
            x.stroke(2, 0);
        }
        due(15, "40 deeds", x.count(2), 40);
        due(15, "FULL", x.stroke(2, 0), FULL);
        due(15, "STATE ahead of FULL", x.stroke(3, 0), STATE);
        due(17, "FULL", x.mend(3), FULL);
        due(17, "STATE ahead of FULL", x.mend(0), STATE);
        lay(x, 0, 0, 0, 0, 0, 0, 0);
        due(16, "FULL", x.round(0), FULL);
        lay(x, 0, 0, 0, 0, 0, 0, 7);
        finds(16, "UNLIKE ahead of FULL", x, x.round(0), UNLIKE);
        due(43, "FULL", x.lots(1, 1), FULL);
        fullAtForty();
        round16();
        mend17();
        undo18();
    }

    private static void fullAtForty() {
        BellBalance x = with("d0 q120");
        x.row(0, 1);
        for (int k = 0; k < 39; k++) {
            x.stroke(0, 0);
        }
        due(16, "the 40th", x.round(0), 1);
        due(16, "one more", x.round(0), FULL);
        x.undo(38);
        x.stroke(0, 6);
        due(17, "the 40th", x.mend(0), 1);
        due(17, "40 deeds", x.count(2), 40);
        due(18, "all of them", x.undo(0), 40);
        due(18, "stands", bell(x, 0, 4), 1);
    }

    private static void round16() {
        BellBalance x = new BellBalance();
        x.row(0, 3);
        due(16, "no bells", x.round(0), STATE);
        due(16, "STATE ahead of NOTHING", x.round(1), STATE);
        due(16, "BAD ahead", x.round(6), BAD);
        x = with("d0 b104 q105 t120");
        finds(16, "missing", x, x.round(0), NOTHING);
        lay(x, 0, 1, 1);
        finds(16, "not as many", x, x.round(0), SIZE);
        lay(x, 0, 1, 1, 1, 9);
        finds(16, "SIZE ahead of UNLIKE", x, x.round(0), SIZE);
        lay(x, 0, 1, -1, 1);
        finds(16, "no pull", x, x.round(0), UNLIKE);
        due(16, "refused: no deed", x.count(2), 0);
        lay(x, 0, 1, 0, 2);
        due(16, "one too low, one broken", x.round(0), 2);
        due(16, "one deed", x.count(2), 1);
        due(16, "over", bell(x, 2, 3), 1);
        due(16, "its strokes", bell(x, 2, 5), 1);
        lay(x, 0, 2, 0, 6);
        due(16, "who is over has none", x.round(0), 3);
        due(16, "its strokes", bell(x, 2, 5), 1);
        lay(x, 0, 2, 0, 7);
        finds(16, "of one that is over any 0 .. 6", x, x.round(0), UNLIKE);
    }

    private static void mend17() {
        BellBalance x = with("d0 q115 b110");
        due(17, "whole", x.mend(0), STATE);
        due(17, "BAD", x.mend(2), BAD);
        due(17, "BAD", x.mend(-1), BAD);
        x.stroke(0, 6);
        due(17, "at 21 it stands", bell(x, 0, 4), 1);
        x.stroke(0, 6);
        due(17, "mended", x.mend(0), 1);
        due(17, "whole", bell(x, 0, 3), 0);
        due(17, "at 0", bell(x, 0, 2), 0);
        due(17, "its strokes stay", bell(x, 0, 5), 2);
        due(17, "a deed", x.count(2), 3);
        due(17, "swings again", x.stroke(0, 4), 4);
    }

    private static void undo18() {
        BellBalance x = with("d0 q115 b110");
        lay(x, 0, 6, 6);
        x.round(0);
        x.stroke(0, 2);
        x.mend(0);
        x.stroke(0, 5);
        x.damp(3);
        due(18, "none", x.undo(4), 0);
        due(18, "above", x.undo(5), BAD);
        due(18, "below", x.undo(-1), BAD);
        due(18, "the last", x.undo(3), 1);
        due(18, "height", bell(x, 0, 2), 0);
        due(18, "the mending", x.undo(2), 1);
        due(18, "over again", bell(x, 0, 3), 1);
        due(18, "the stroke", x.undo(1), 1);
        due(18, "stands again", bell(x, 0, 4), 1);
        due(18, "strokes", bell(x, 0, 5), 1);
        due(18, "the round", x.undo(0), 1);
        due(18, "height", bell(x, 0, 2), 15);
        due(18, "height", bell(x, 1, 2), 10);
        due(18, "the damp stays", x.count(1), 3);
        due(18, "none left", x.undo(0), 0);
        due(18, "of no tower", new BellBalance().undo(0), 0);
    }

    private static void keptNineteenToTwenty() {
        BellBalance x = new BellBalance();
        due(19, "no bells", x.keep(0), STATE);
        due(19, "BAD ahead", x.keep(3), BAD);
        finds(20, "missing", x, x.on(0), NOTHING);
        due(20, "BAD", x.on(-1), BAD);
        due(20, "BAD", x.on(3), BAD);
        x = with("d1 b110 q119");
        x.stroke(0, 3);
        x.stroke(1, 3);
        due(19, "keep", x.keep(0), 2);
        due(19, "count", x.count(8), 1);
        x.undo(0);
        x.damp(2);
        due(19, "another", x.keep(2), 0);
        x.stroke(0, 6);
        due(20, "on", x.on(0), 2);
        due(20, "height", bell(x, 0, 2), 12);
        due(20, "over", bell(x, 1, 3), 1);
        due(20, "the damp", x.count(1), 1);
        due(20, "its deeds can be undone", x.undo(1), 1);
        due(20, "whole", bell(x, 1, 2), 19);
        due(20, "it is still kept", x.on(0), 2);
        due(20, "the other", x.on(2), 0);
        due(20, "the damp", x.count(1), 2);
        due(20, "height", bell(x, 0, 2), 10);
        due(20, "kept ones stay", x.count(8), 2);
        x.stroke(0, 1);
        due(19, "kept over", x.keep(0), 1);
        due(20, "on", x.on(0), 1);
        finds(20, "missing", x, x.on(1), NOTHING);
    }

    private static void oneBellTwentyOneToTwentyTwo() {
        BellBalance x = with(SIX);
        due(21, "plain at 11: 10+5+1-1", x.strikes(0, 0), 15);
        due(21, "plain at 17: 10+8+1-1", x.strikes(0, 6), 18);
        due(21, "heavy at 18: 10+9+3-1", x.strikes(1, 3), 21);
        due(21, "quick breaks", x.strikes(2, 2), NONE);
        due(21, "blind at 4", x.strikes(3, 0), NONE);
        due(21, "blind at 5: 10+2+1-1+1", x.strikes(3, 1), 13);
        due(21, "great at 15: 10+7+2-1+2", x.strikes(4, 0), 20);
        due(21, "treble at 19: 10+9+0-1-1", x.strikes(5, 0), 17);
        due(21, "no pull", x.strikes(0, 7), BAD);
        due(21, "no bell", x.strikes(6, 0), BAD);
        due(22, "plain at 12", x.stands(0), 0);
        due(22, "breaks by none", x.asked(), 0);
        due(22, "heavy at 18: by 6", x.stands(1), 64);
        due(22, "quick at 20: by 0, 1", x.stands(2), 3);
        due(22, "breaks by 2 .. 6", x.asked(), 124);
        due(22, "no bell", x.stands(-1), BAD);
        x.stroke(2, 6);
        due(21, "STATE", x.strikes(2, 0), STATE);
        due(21, "BAD ahead", x.strikes(2, -1), BAD);
        due(22, "STATE", x.stands(2), STATE);
        due(22, "refused: asked stays", x.asked(), 124);
        BellBalance y = with("d0 b120 g120");
        due(22, "plain at 20: by 1, 2", y.stands(0), 6);
        due(22, "breaks by 3 .. 6", y.asked(), 120);
        due(22, "great at 20: by 2 .. 5", y.stands(1), 60);
        due(22, "breaks by 6", y.asked(), 64);
    }

    private static void pathsTwentyThreeToTwentyFive() {
        BellBalance x = with("d0 b112 h100 q120 t101 b119");
        due(23, "plain", x.raise(0, 1), 2);
        holds(23, x, 1, 4, 6);
        due(23, "heavy: 2 each", x.raise(1, 1), 10);
        holds(23, x, 1, 6, 6, 6, 6, 6, 6, 6, 6, 6, 6);
        due(23, "it does now", x.raise(2, 1), 0);
        holds(23, x, 1);
        due(23, "treble", x.raise(3, 5), 4);
        holds(23, x, 5, 1, 6, 6, 6);
        due(23, "no row", x.raise(0, 6), BAD);
        due(23, "no bell", x.raise(5, 0), BAD);
        due(24, "none now", x.ways(0, 0), 1);
        due(24, "none now", x.upper(), 0);
        due(24, "two: (4,6) (5,5) (5,6) (6,4) (6,5); (6,6) breaks", x.ways(0, 2), 1);
        due(24, "two", x.upper(), 5);
        due(24, "lower", x.lower(), 1);
        due(24, "it does", x.ways(2, 0), 1);
        due(24, "it does", x.upper(), 1);
        due(24, "quick at 20, 12 times by 0 or 1", x.ways(2, 12), 1);
        due(24, "quick at 20", x.upper(), 4096);
        due(24, "above 12", x.ways(0, 13), BAD);
        due(24, "below 0", x.ways(0, -1), BAD);
        due(24, "no bell", x.ways(-1, 1), BAD);
        arms25(x);
        x.stroke(2, 6);
        due(23, "STATE", x.raise(2, 0), STATE);
        due(23, "BAD ahead", x.raise(2, -1), BAD);
        due(24, "STATE", x.ways(2, 1), STATE);
        due(24, "BAD ahead", x.ways(2, 13), BAD);
        due(25, "STATE", x.arms(2, 1, 1, 1), STATE);
        due(25, "BAD ahead", x.arms(2, 1, 21, 1), BAD);
    }

    private static void arms25(BellBalance x) {
        due(25, "plain, 12 to 20 by 4", x.arms(0, 4, 20, 0), 12);
        holds(25, x, 0, 0, 0, 6, 6);
        due(25, "heavy, 0 to 3 by 3: 0 by 0, 1 by 4, 3 by 6", x.arms(1, 3, 3, 0), 10);
        holds(25, x, 0, 0, 4, 6);
        due(25, "plain, 19 to 20 by 1: by 2", x.arms(4, 1, 20, 0), 2);
        holds(25, x, 0, 2);
        due(25, "none, as it is", x.arms(0, 0, 12, 0), 0);
        holds(25, x, 0);
        due(25, "to 0: it is there and stays", x.arms(1, 12, 0, 0), 0);
        holds(25, x, 0, 0, 0, 0, 0, 0, 0, 0, 0, 0, 0, 0, 0);
        lay(x, 0, 7, 7);
        due(25, "none do", x.arms(0, 0, 13, 0), NONE);
        holds(25, x, 0, 7, 7);
        due(25, "none do: quick ones do not sink", x.arms(2, 12, 19, 0), NONE);
        due(25, "above 12", x.arms(0, 13, 1, 0), BAD);
        due(25, "below 0", x.arms(0, -1, 1, 0), BAD);
        due(25, "height 21", x.arms(0, 1, 21, 0), BAD);
        due(25, "height -1", x.arms(0, 1, -1, 0), BAD);
        due(25, "no row", x.arms(0, 1, 1, 6), BAD);
        due(25, "no bell", x.arms(5, 1, 1, 0), BAD);
    }

    private static void oneBellTwentySixToTwentyEight() {
        BellBalance x = with("d1 b412 n104 h100 q120 q105 b905");
        due(26, "early", x.hold(0, 0), 0);
        due(26, "by 15", x.asked(), 15);
        due(26, "late: 18 by 5 and 6", x.hold(0, 40), 5);
        due(26, "by 22", x.asked(), 22);
        due(26, "just", x.hold(0, 17), 3);
        due(26, "just", x.asked(), 0);
        due(26, "none strikes", x.hold(2, 10), NONE);
        due(26, "NONE: asked stays", x.asked(), 0);
        due(26, "BAD", x.hold(0, 41), BAD);
        due(26, "BAD", x.hold(0, -1), BAD);
        due(26, "BAD", x.hold(6, 0), BAD);
        due(27, "from 12", x.drops(0), 8);
        due(27, "at 4 already", x.drops(1), 0);
        due(27, "quick ones never", x.drops(3), NONE);
        due(27, "from 5", x.drops(5), 1);
        due(27, "BAD", x.drops(6), BAD);
        due(28, "now", x.back(0), 0);
        due(28, "from 4", x.back(1), 1);
        due(28, "heavy from 0: 2, 4, 6", x.back(2), 3);
        due(28, "at 5", x.back(4), 0);
        due(28, "BAD", x.back(-1), BAD);
        x.stroke(3, 2);
        due(26, "STATE", x.hold(3, 0), STATE);
        due(27, "STATE", x.drops(3), STATE);
        due(28, "STATE", x.back(3), STATE);
    }

    private static void roundsTwentyNineToThirtyFour() {
        BellBalance x = with(SIX);
        lay(x, 0, 1, 2, 0, 1, 3, 0);
        due(29, "times 16 19 23 23 27 29", x.error(0), 7);
        due(29, "all", x.asked(), 63);
        int[] who = {0, 3, 1, 2, 5, 4};
        int[] when = {16, 19, 23, 23, 27, 29};
        for (int k = 0; k < 6; k++) {
            due(30, "who", x.heard(0, k), who[k]);
            due(30, "when", x.asked(), when[k]);
        }
        due(34, "gaps 3 4 0 4 2: the first of the greatest", x.late(0), 1);
        due(34, "gap", x.asked(), 4);
        due(29, "aside", x.count(2), 0);
        lay(x, 0, 1, 2, 2, 0, 3, 0);
        due(29, "one broken, one low: 16 23 27 29", x.error(0), 7);
        due(29, "who", x.asked(), 51);
        due(30, "a place too far", x.heard(0, 4), NONE);
        due(30, "NONE: asked stays", x.asked(), 51);
        due(30, "place", x.heard(0, 6), BAD);
        due(30, "place", x.heard(0, -1), BAD);
        BellBalance y = with("d0 b100 b100 b120");
        lay(y, 1, 0, 0, 0);
        due(29, "one is heard", y.error(1), 0);
        due(29, "who", y.asked(), 4);
        due(34, "fewer than two", y.late(1), NONE);
        due(34, "NONE: asked stays", y.asked(), 4);
        lay(y, 1, 6, 6, 6);
        due(29, "who broke is not heard; 12, 14", y.error(1), 0);
        due(29, "who", y.asked(), 3);
        due(34, "the second", y.late(1), 1);
        due(34, "gap", y.asked(), 2);
        roundRefusals(new BellBalance(), x);
    }

    private static void roundRefusals(BellBalance empty, BellBalance x) {
        due(29, "no bells", empty.error(0), STATE);
        due(30, "no bells", empty.heard(0, 0), STATE);
        due(30, "BAD ahead", empty.heard(0, 6), BAD);
        due(34, "no bells", empty.late(0), STATE);
        due(29, "BAD", empty.error(6), BAD);
        due(34, "BAD", empty.late(-1), BAD);
        finds(29, "missing", x, x.error(4), NOTHING);
        finds(30, "missing", x, x.heard(4, 0), NOTHING);
        finds(34, "missing", x, x.late(4), NOTHING);
        lay(x, 4, 9, 9);
        finds(29, "not as many", x, x.error(4), SIZE);
        finds(30, "not as many", x, x.heard(4, 0), SIZE);
        finds(34, "not as many", x, x.late(4), SIZE);
        lay(x, 4, 0, 0, 0, 0, 0, 7);
        finds(29, "no pull", x, x.error(4), UNLIKE);
        finds(30, "no pull", x, x.heard(4, 0), UNLIKE);
        finds(34, "no pull", x, x.late(4), UNLIKE);
    }

    private static void evenThirtyOneToThirtyThree() {
        BellBalance x = new BellBalance();
        due(31, "no bells", x.even(0), STATE);
        due(31, "BAD", x.even(6), BAD);
        due(32, "no bells", x.change(0, 1), STATE);
        due(32, "BAD", x.change(0, 6), BAD);
        due(32, "BAD", x.change(-1, 0), BAD);
        due(33, "no bells", x.orders(), STATE);
        // 0: at 9 .. 15, 14 to 17; 1: at 19, 20 (by 2, 3), 19 or 20, and 2 later: 21 or 22
        x = with("d0 b110 b120");
        due(31, "17 and 21", x.even(0), 2);
        holds(31, x, 0, 5, 0);
        x.stroke(0, 0);
        x.stroke(0, 0);
        due(31, "anew, from 8: 16 (at 12 by 5) and 21", x.even(4), 3);
        holds(31, x, 4, 5, 0);
        x.undo(0);
        due(33, "one order", x.orders(), 1);
        lay(x, 1, 0, 1);
        due(32, "the first: 14 and 21", x.change(1, 2), 5);
        holds(32, x, 2, 0, 0);
        lay(x, 1, 1, 0);
        due(32, "not so", x.change(1, 2), NONE);
        holds(32, x, 2, 0, 0);
        lay(x, 1, 0);
        finds(32, "not as many", x, x.change(1, 2), SIZE);
        lay(x, 1, 0, 0);
        finds(32, "each once", x, x.change(1, 2), UNLIKE);
        lay(x, 1, 0, 2);
        finds(32, "no bell", x, x.change(1, 2), UNLIKE);
        finds(32, "missing", x, x.change(5, 2), NOTHING);
        due(32, "the other row may be the same", orderIntoItself(), 5);
        likeTenths();
        someOver();
    }

    private static int orderIntoItself() {
        BellBalance x = with("d0 b110 b120");
        lay(x, 1, 0, 1);
        int answer = x.change(1, 1);
        holds(32, x, 1, 0, 0);
        return answer;
    }

    private static void likeTenths() {
        // 0: at 13 .. 19, 16 to 19; 1: at 9 .. 15, 14 to 17, and 2 later: 16 to 19
        BellBalance x = with("d0 b114 b110");
        due(33, "both orders", x.orders(), 2);
        lay(x, 1, 0, 1);
        due(32, "16 and 16: of like ones by numbers", x.change(1, 2), 2);
        holds(32, x, 2, 0, 0);
        lay(x, 1, 1, 0);
        due(32, "17 and 16: truly later", x.change(1, 2), 1);
        holds(32, x, 2, 1, 0);
        due(31, "16 and 18", x.even(3), 0);
        holds(31, x, 3, 0, 3);
    }

    private static void someOver() {
        BellBalance x = with("d0 q120 b110 b100");
        x.stroke(0, 6);
        due(31, "who is over pulls 0; 16 to 19 by 3 is 18, and 16 by 6 alone", x.even(0), 0);
        holds(31, x, 0, 0, 3, 6);
        lay(x, 1, 1, 2);
        due(32, "all that are not over: 14 + 2, 12 + 4", x.change(1, 1), 2);
        holds(32, x, 1, 0, 0, 6);
        lay(x, 1, 0, 1);
        finds(32, "one that is over", x, x.change(1, 2), UNLIKE);
        lay(x, 1, 0, 1, 2);
        finds(32, "not as many", x, x.change(1, 2), SIZE);
        due(33, "orders", x.orders(), 2);
        BellBalance y = with("d0 b110 h100");
        lay(y, 0, 5, 5, 5);
        due(31, "one is too low", y.even(0), NONE);
        holds(31, y, 0, 5, 5, 5);
        due(33, "none", y.orders(), 0);
        BellBalance z = with("d0 q120");
        z.stroke(0, 6);
        due(31, "all over: none rings", z.even(0), 0);
        holds(31, z, 0, 0);
        due(33, "all over: the one order of none", z.orders(), 1);
    }

    private static void turnsThirtyFiveToThirtySix() {
        due(36, "by itself: 18 by 2", with("d0 q118").first(0, 1), 2);
        due(36, "another kind just ahead does not matter", firstBehindAnother(), NONE);
        BellBalance x = with("d0 b120 q120 b119 q103 g120");
        due(35, "stands", x.game(0, 0), 1);
        due(35, "does not", x.game(2, 0), 0);
        due(35, "plain: the other one lets it sink", x.game(0, 1), 0);
        due(36, "NONE", x.first(0, 1), NONE);
        due(35, "quick at 20: every other pull leaves it or breaks", x.game(1, 1), 1);
        due(36, "by 0", x.first(1, 1), 0);
        due(35, "quick at 20", x.game(1, 3), 1);
        due(35, "quick at 3", x.game(3, 2), 0);
        due(35, "quick at 3", x.game(3, 3), 1);
        due(36, "by 5", x.first(3, 3), 5);
        due(35, "above 3", x.game(0, 4), BAD);
        due(35, "below 0", x.game(0, -1), BAD);
        due(35, "no bell", x.game(5, 0), BAD);
        due(36, "n 0", x.first(1, 0), BAD);
        due(36, "above 3", x.first(1, 4), BAD);
        due(36, "no bell", x.first(-1, 1), BAD);
        x.stroke(1, 6);
        due(35, "STATE", x.game(1, 0), STATE);
        due(35, "BAD ahead", x.game(1, 4), BAD);
        due(36, "STATE", x.first(1, 1), STATE);
        due(36, "BAD ahead", x.first(1, 0), BAD);
    }

    private static int firstBehindAnother() {
        BellBalance x = with("d0 q120 b120");
        x.first(0, 1);
        return x.first(1, 1);
    }

    private static void toldThirtySevenToThirtyNine() {
        BellBalance x = with("d1 b610 q120 n104");
        lay(x, 0, 3, 17);
        // 10+6+2-1 = 17 at 12 (plain) or 13 (quick); heavy 10: 16; great 10: 18; blind 12: 18; treble 13: 16
        due(37, "plain, quick", x.kinds(0, 0), 5);
        due(38, "by 1 alone", x.damps(0, 0), 2);
        due(39, "from 10, 11", x.heights(0, 0), 3072);
        lay(x, 0);
        due(37, "none told", x.kinds(0, 0), 63);
        due(38, "none told", x.damps(0, 0), 15);
        due(39, "none told", x.heights(0, 0), 2097151);
        lay(x, 0, 3, NONE, 0, NONE);
        due(38, "a broken one is not heard, then neither", x.damps(1, 0), 15);
        due(39, "quick, from 0, 1 low, from 19, 20 broken", x.heights(1, 0), 3 | 1 << 19 | 1 << 20);
        lay(x, 0, 3, NONE, 0, 19);
        due(38, "one that is over does not strike", x.damps(1, 0), 0);
        lay(x, 0, 3, 999);
        due(37, "never so late", x.kinds(0, 0), 0);
        lay(x, 0, 1, NONE);
        due(39, "blind, too low to strike", x.heights(2, 0), 31);
        toldRefusals(x);
    }

    private static void toldRefusals(BellBalance x) {
        lay(x, 0, 9, 1, 1);
        finds(37, "SIZE ahead of UNLIKE", x, x.kinds(0, 0), SIZE);
        finds(38, "not by pairs", x, x.damps(0, 0), SIZE);
        finds(39, "not by pairs", x, x.heights(0, 0), SIZE);
        lay(x, 0, 1, 20, 7, 20);
        finds(37, "no pull", x, x.kinds(0, 0), UNLIKE);
        finds(38, "no pull", x, x.damps(0, 0), UNLIKE);
        finds(39, "no pull", x, x.heights(0, 0), UNLIKE);
        finds(37, "missing", x, x.kinds(0, 3), NOTHING);
        finds(38, "missing", x, x.damps(0, 3), NOTHING);
        finds(39, "missing", x, x.heights(0, 3), NOTHING);
        due(37, "no bell", x.kinds(3, 0), BAD);
        due(38, "no bell", x.damps(3, 0), BAD);
        due(39, "no bell", x.heights(3, 0), BAD);
        x.stroke(1, 6);
        due(37, "STATE ahead of NOTHING", x.kinds(1, 3), STATE);
        due(38, "STATE ahead of NOTHING", x.damps(1, 3), STATE);
        due(39, "STATE ahead of NOTHING", x.heights(1, 3), STATE);
        due(37, "BAD ahead of STATE", x.kinds(1, 6), BAD);
        due(38, "BAD ahead of STATE", x.damps(1, 6), BAD);
        due(39, "BAD ahead of STATE", x.heights(1, -1), BAD);
    }

    private static void broke40() {
        BellBalance x = with("d3 b100 g904 q203");
        lay(x, 1, 6, 6, 6, 6, 6, 6);
        due(40, "5 10 15 20, then it breaks", x.broke(0, 1), 4);
        due(40, "the first one", x.asked(), 0);
        due(40, "9 15 20 (21), then it breaks", x.broke(2, 1), 3);
        due(40, "the second one", x.asked(), 1);
        due(40, "heavy: it does not", x.broke(1, 1), NONE);
        due(40, "NONE: asked stays", x.asked(), 1);
        lay(x, 1, 6, 6, 6, 6, 6, 7);
        finds(40, "no pull, though behind", x, x.broke(0, 1), UNLIKE);
        lay(x, 1);
        due(40, "no pulls", x.broke(0, 1), NONE);
        finds(40, "missing", x, x.broke(0, 2), NOTHING);
        due(40, "no row", x.broke(0, 6), BAD);
        due(40, "no bell", x.broke(3, 1), BAD);
        for (int k = 0; k < 4; k++) {
            x.stroke(2, 6);
        }
        due(40, "STATE ahead of NOTHING", x.broke(2, 2), STATE);
        due(40, "BAD ahead of STATE", x.broke(2, 6), BAD);
    }

    private static void chance(int promise, String what, BellBalance x, long upper, long lower) {
        due(promise, what + ", upper", x.upper(), upper);
        due(promise, what + ", lower", x.lower(), lower);
    }

    private static void slipsFortyOneToFortyTwo() {
        BellBalance x = with("d0 q120 b118 g120 b100");
        due(41, "quick at 20 by 1", x.odds(0, 1, 2, 3), 1);
        chance(41, "9/12 by 9/12", x, 9, 16);
        due(42, "its height", x.mid(0, 1, 2, 3), 1);
        chance(42, "20 by 9/16", x, 45, 4);
        due(41, "never", x.odds(0, 6, 1, 0), 1);
        chance(41, "0 by 1", x, 0, 1);
        due(42, "over: 0", x.mid(0, 6, 1, 0), 1);
        chance(42, "0 by 1", x, 0, 1);
        due(41, "no strokes", x.odds(1, 6, 0, 12), 1);
        chance(41, "surely", x, 1, 1);
        due(42, "no strokes", x.mid(1, 6, 0, 12), 1);
        chance(42, "18", x, 18, 1);
        due(42, "18 + 2 or 3 - 1, 19 or 20", x.mid(1, 2, 1, 1), 1);
        chance(42, "19 and a twelfth", x, 229, 12);
        due(41, "great at 20 by 5 slips to 6: breaks", x.odds(2, 5, 1, 4), 1);
        chance(41, "8 of 12", x, 2, 3);
        due(41, "great, by 6 slips to 7, half of it 3", x.odds(2, 6, 1, 12), 1);
        chance(41, "breaks", x, 0, 1);
        due(42, "plain at 0 by 0, always slipping: 1 - 1", x.mid(3, 0, 8, 12), 1);
        chance(42, "0 by 1", x, 0, 1);
        due(41, "n", x.odds(0, 0, 9, 0), BAD);
        due(41, "n", x.odds(0, 0, -1, 0), BAD);
        due(41, "p", x.odds(0, 0, 1, 13), BAD);
        due(41, "p", x.odds(0, 0, 1, -1), BAD);
        due(41, "pull", x.odds(0, 7, 1, 1), BAD);
        due(41, "bell", x.odds(4, 0, 1, 1), BAD);
        due(42, "n", x.mid(0, 0, 9, 0), BAD);
        due(42, "p", x.mid(0, 0, 1, 13), BAD);
        due(42, "pull", x.mid(0, -1, 1, 1), BAD);
        due(42, "bell", x.mid(-1, 0, 1, 1), BAD);
        x.stroke(0, 6);
        due(41, "STATE", x.odds(0, 0, 1, 1), STATE);
        due(41, "BAD ahead", x.odds(0, 0, 1, 13), BAD);
        due(42, "STATE", x.mid(0, 0, 1, 1), STATE);
        due(42, "BAD ahead", x.mid(0, 7, 1, 1), BAD);
    }

    private static void lots43() {
        BellBalance x = new BellBalance();
        due(43, "no bells", x.lots(1, 1), STATE);
        due(43, "BAD ahead", x.lots(0, 1), BAD);
        due(43, "BAD", x.lots(21, 1), BAD);
        due(43, "BAD", x.lots(1, 0), BAD);
        due(43, "BAD", x.lots(1, MAX), BAD);
        due(43, "BAD", x.lots(1, MIN), BAD);
        // 48271 by 16 is 3016, modulo 4: 0; then 182605794 by 16 is 11412862: 2
        x = with("d0 q100 q100");
        due(43, "a round", x.lots(1, 1), 2);
        due(43, "by 0", bell(x, 0, 2), 0);
        due(43, "by 2", bell(x, 1, 2), 2);
        due(43, "a deed", x.count(2), 1);
        due(43, "the greatest seed", x.lots(1, 2147483646), 2);
        due(43, "undone", x.undo(0), 2);
        int left = x.lots(20, 7);
        due(43, "20 rounds: who is not over then", left, x.count(0) - x.count(3));
        due(43, "20 deeds", x.count(2), 20);
        BellBalance y = with("d0 q120 q100");
        y.stroke(0, 6);
        due(43, "who is over has no number", y.lots(2, 1), 1);
        due(43, "by 0, by 2", bell(y, 1, 2), 2);
        due(43, "no strokes", bell(y, 0, 5), 1);
        BellBalance z = with("d0 b100");
        due(43, "20", z.lots(20, 5), 1);
        due(43, "20 more", z.lots(20, 5), 1);
        due(43, "40 deeds", z.count(2), 40);
        z.undo(38);
        due(43, "3 more are too many", z.lots(3, 5), FULL);
        due(43, "2 more are not", z.lots(2, 5), 1);
    }

    private static void tellsFortyFourToFortyNine() {
        BellBalance x = new BellBalance();
        due(44, "before", x.asked(), 0);
        due(45, "before", x.upper(), 0);
        due(46, "before", x.lower(), 1);
        due(48, "before", x.finding(), 0);
        for (int f = 1; f <= 5; f++) {
            due(49, "before", x.findings(f), 0);
        }
        due(49, "BAD", x.findings(0), BAD);
        due(49, "BAD", x.findings(6), BAD);
        due(47, "BAD", x.count(-1), BAD);
        due(47, "BAD", x.count(9), BAD);
        x.row(0, 1);
        x.lay(0, 0, 5);
        x.at(0, 0);
        due(44, "at", x.asked(), 5);
        x.at(0, 1);
        x.mean(1);
        x.tear(1);
        x.row(1, -1);
        due(48, "the latest", x.finding(), SIZE);
        due(49, "NOTHING", x.findings(NOTHING), 2);
        due(49, "BEYOND", x.findings(BEYOND), 1);
        due(49, "SIZE", x.findings(SIZE), 1);
        due(49, "NOUGHT", x.findings(NOUGHT), 0);
        due(44, "refused: stays", x.asked(), 5);
        x.row(99, 0);
        due(48, "BAD is no finding", x.finding(), SIZE);
        BellBalance y = with("d2 h120 g110 q119 b120");
        y.row(1, 1);
        y.text(2, 2);
        y.keep(2);
        y.stroke(2, 6);
        y.odds(1, 0, 1, 0);
        due(45, "odds", y.upper(), 1);
        y.odds(2, 0, 1, 0);
        due(45, "refused: stays", y.upper(), 1);
        y.mid(1, 4, 1, 6);
        due(45, "mid: 10 + 2 - 1", y.upper(), 11);
        due(46, "mid", y.lower(), 1);
        int[] counts = {4, 2, 1, 1, 2, 2, 1, 2, 1};
        for (int k = 0; k <= 8; k++) {
            due(47, "count " + k, y.count(k), counts[k]);
        }
    }

    private static long digestOf(long... values) {
        long h = 17;
        for (long v : values) {
            h = 31 * h + v;
        }
        return h;
    }

    private static void digest50() {
        BellBalance x = new BellBalance();
        due(50, "of none", x.digest(), digestOf(0, 0, 0, 0, 0, 0, 0, 0, 0, -1, -1, -1, -1, -1, -1, -1, -1, -1, -1, -1, -1, -1));
        x = with("d1h711");
        x.stroke(0, 6);
        x.keep(1);
        x.row(5, 2);
        x.lay(5, 1, -3);
        x.text(3, 1);
        x.put(3, 0, -5);
        x.bell(0, 2);
        due(50, "of some", x.digest(), digestOf(1, 1, 1, 0, 0, 1, 1, 2, 1, 1, 7, 13, 0, 0, 1, -1, 1, -1, -1, -1, -1, -1, -1, 2, 0, -3,
            6, 'd', '1', 'h', '7', '1', '1', -1, -1, 1, -5));
        due(50, "asked stays", x.asked(), 13);
        x.tear(5);
        due(50, "torn", x.digest(), digestOf(1, 1, 1, 0, 0, 1, 0, 2, 1, 1, 7, 13, 0, 0, 1, -1, 1, -1, -1, -1, -1, -1, -1, -1,
            6, 'd', '1', 'h', '7', '1', '1', -1, -1, 1, -5));
    }
}
