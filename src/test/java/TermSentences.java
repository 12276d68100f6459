import java.util.ArrayList;
import java.util.List;

/** Sentences of the document's terms, which hold for all promises. */
final class TermSentences extends Scenes {
    private static final int T = Sentences.TERMS;

    private TermSentences() {
    }

    static void test(Sentences s) {
        calls(s);
        refused(s);
        findings(s);
        told(s);
        rowsAndTexts(s);
        towers(s);
        faults(s);
        kinds(s);
        heights(s);
        over(s);
        striking(s);
        rounds(s);
        deeds(s);
        rowsOfPulls(s);
        slipsAndLots(s);
        asides(s);
    }

    private static void calls(Sentences s) {
        s.says(T, "An object is used for at most 512 calls after it has been made; what later calls answer is free.");
        BellBalance x = new BellBalance();
        x.row(0, 1);
        for (int k = 1; k < 511; k++) {
            s.is("call " + (k + 1), x.lay(0, 0, k), 1);
        }
        s.is("call 512", x.asked(), 509);
    }

    private static void refused(Sentences s) {
        s.says(T, "Refused is, the first of these that fits, in this order:");
        s.no(Scenes::rich, "BAD ahead of STATE: an OVER bell, no pull", BAD, x -> x.stroke(2, 7));
        s.no(Scenes::full, "BAD ahead of FULL", BAD, x -> x.stroke(0, 7));
        s.no(BellBalance::new, "BAD ahead of STATE: no bells, no row", BAD, x -> x.error(6));
        s.no(BellBalance::new, "STATE ahead of FINDING: no bells, a missing row", STATE, x -> x.error(5));
        s.no(Scenes::rich, "STATE ahead of FINDING: an OVER bell, a missing row", STATE, x -> x.kinds(2, 5));
        s.no(Scenes::rich, "BAD ahead of FINDING: no row, fewer than none", BAD, x -> x.row(6, -1));

        s.says(T, "BAD -1 (a number that is none, or not as told)");
        s.is("BAD", BellBalance.BAD, -1);
        s.no(Scenes::rich, "no such row", -1, x -> x.row(-1, 0));
        s.no(Scenes::rich, "no such text", -1, x -> x.text(4, 0));
        s.no(Scenes::rich, "no such bell", -1, x -> x.bell(6, 0));
        s.no(Scenes::rich, "no such kept place", -1, x -> x.keep(3));
        s.no(Scenes::rich, "not as told", -1, x -> x.row(0, 41));

        s.says(T, "FULL -2");
        s.is("FULL", BellBalance.FULL, -2);
        s.no(Scenes::full, "a 41st deed", -2, x -> x.stroke(0, 0));

        s.says(T, "STATE -4 (not now)");
        s.is("STATE", BellBalance.STATE, -4);
        s.no(Scenes::rich, "a bell that is OVER", -4, x -> x.stroke(2, 0));
        s.no(BellBalance::new, "no bells", -4, x -> x.damp(0));

        s.says(T, "SPENT -6 (more than told)");
        s.is("SPENT", BellBalance.SPENT, -6);

        s.says(T, "FINDING -3 (finding() tells which)");
        s.is("FINDING", BellBalance.FINDING, -3);
        s.finds(Scenes::rich, "a missing row", NOTHING, x -> x.at(3, 0));

        s.says(T, "unless a call says so otherwise.");
        s.no(Scenes::full, "stroke: STATE ahead of FULL", STATE, x -> x.stroke(1, 0));
        s.finds(Scenes::full, "round: FINDING ahead of FULL", NOTHING, x -> x.round(5));
        s.finds(BellBalance::new, "tower: NOTHING ahead of STATE", NOTHING, x -> x.tower(0));

        s.says(T, "NONE -9 (as an answer: a ROW that would come anew stays).");
        s.is("NONE", BellBalance.NONE, -9);
        s.no(() -> with("d0 b100 b110", 7, 8, 9), "arms: row 0 stays", NONE, x -> x.arms(0, 0, 1, 0));
        s.no(() -> with("d0 b100 b110", 7, 8, 9), "arms: row 1 stays missing", NONE, x -> x.arms(0, 0, 1, 1));
        s.no(() -> with("d0 h100 b110", 7, 8, 9), "even: row 0 stays", NONE, x -> x.even(0));
        s.no(() -> with("d0 h100 b110", 7, 8, 9), "even: row 1 stays missing", NONE, x -> x.even(1));
        s.no(() -> with("d0 h100 b110", 1, 0), "change: row 0 stays", NONE, x -> x.change(0, 0));
        s.no(() -> with("d0 h100 b110", 1, 0), "change: row 1 stays missing", NONE, x -> x.change(0, 1));

        s.says(T, "What is refused changes nothing but finding(), findings().");
        s.no(Scenes::rich, "BAD", BAD, x -> x.copy(0, 0, 6, 0, 1));
        s.no(Scenes::full, "FULL", FULL, x -> x.lots(1, 1));
        s.no(Scenes::rich, "STATE", STATE, x -> x.tower(1));
        s.finds(Scenes::rich, "FINDING", BEYOND, x -> x.copy(0, 0, 1, 0, 4));
        s.finds(Scenes::rich, "FINDING on a new object's count", NOUGHT, x -> x.mean(2));
    }

    private static void findings(Sentences s) {
        s.says(T, "FINDINGS: 1 NOTHING (a ROW, a TEXT, a kept TOWER that is missing)");
        s.finds(Scenes::rich, "a ROW", 1, x -> x.tear(3));
        s.finds(Scenes::rich, "a TEXT", 1, x -> x.fault(3));
        s.finds(Scenes::rich, "a kept TOWER", 1, x -> x.on(1));

        s.says(T, "2 BEYOND (a place of a ROW, a TEXT that there is not)");
        s.finds(Scenes::rich, "of a ROW", 2, x -> x.at(1, 3));
        s.finds(Scenes::rich, "of a TEXT", 2, x -> x.put(1, 10, 0));

        s.says(T, "3 UNLIKE (a BELL of another KIND; a number that is none)");
        s.finds(Scenes::rich, "a BELL of another KIND", 3, x -> x.mark(0, HEAVY));
        s.finds(() -> with("d0b110", 7), "a number that is none", 3, x -> x.round(0));

        s.says(T, "4 NOUGHT (shared among none)");
        s.finds(Scenes::rich, "the mean of none", 4, x -> x.mean(2));

        s.says(T, "5 SIZE (fewer than none; too many, not as many as due).");
        s.finds(Scenes::rich, "fewer than none", 5, x -> x.text(0, -1));
        s.finds(() -> with("d0b110", 1, 1), "too many", 5, x -> x.round(0));
        s.finds(() -> with("d0b110b110", 1), "not as many as due", 5, x -> x.round(0));
    }

    private static void told(Sentences s) {
        s.says(T, "Chances are told by upper(), lower(), in lowest terms, the lower number above 0 (0 by 1).");
        s.chance(() -> with("d0q120"), "8 of 12", 2, 3, x -> x.odds(0, 1, 1, 4));
        s.chance(() -> with("d0q120"), "12 of 12", 1, 1, x -> x.odds(0, 0, 1, 12));
        s.chance(() -> with("d0q120"), "0 of 12", 0, 1, x -> x.odds(0, 1, 1, 12));
        s.chance(() -> with("d0q120"), "0 of 12 to the eighth", 0, 1, x -> x.odds(0, 6, 8, 5));
        s.chance(() -> with("d0b100"), "ways: 0 by 1", 0, 1, x -> x.ways(0, 3));

        s.says(T, "Sets (of BELLS, of PULLS, of KINDS) are told by bits.");
        s.is(() -> with("d0b104b110b104b110", 1, 1, 1, 1), "BELLS 1 and 3", 2 + 8, x -> x.round(0));
        s.tells(() -> with("d0b120"), "PULLS 1 and 2, 3 to 6", 2 + 4, 8 + 16 + 32 + 64, x -> x.stands(0));
        s.is(() -> with("d0b110", 1, 15), "KINDS BELL and QUICK", 1 + 4, x -> x.kinds(0, 0));
    }

    private static void rowsAndTexts(Sentences s) {
        s.says(T, "ROWS 0 .. 5 are rows of 0 to 40 ints");
        for (int row = 0; row <= 5; row++) {
            int r = row;
            s.is(BellBalance::new, "row " + r + " of none", 0, x -> x.row(r, 0));
            s.is(BellBalance::new, "row " + r + " of 40", 40, x -> x.row(r, 40));
            s.is(() -> rowOf(r, 40), "row " + r + ", its last place", 1, x -> x.lay(r, 39, MIN));
            s.finds(() -> rowOf(r, 0), "row " + r + " of none, its first place", BEYOND, x -> x.lay(r, 0, 1));
        }
        s.no(BellBalance::new, "row -1", BAD, x -> x.row(-1, 1));
        s.no(BellBalance::new, "row 6", BAD, x -> x.row(6, 1));
        s.tells(() -> with("d0b100", MIN), "the least int", 1, MIN, x -> x.at(0, 0));
        s.tells(() -> with("d0b100", MAX), "the greatest int", 1, MAX, x -> x.at(0, 0));

        s.says(T, "TEXTS 0 .. 3 rows of 0 to 60 bytes");
        for (int text = 0; text <= 3; text++) {
            int t = text;
            s.is(BellBalance::new, "text " + t + " of none", 0, x -> x.text(t, 0));
            s.is(BellBalance::new, "text " + t + " of 60", 60, x -> x.text(t, 60));
            s.is(() -> textOf(t, 60), "text " + t + ", its last place", 1032, x -> x.put(t, 59, 100));
            s.finds(() -> textOf(t, 0), "text " + t + " of none, its first place", BEYOND, x -> x.put(t, 0, 100));
        }
        s.no(BellBalance::new, "text -1", BAD, x -> x.text(-1, 1));
        s.no(BellBalance::new, "text 4", BAD, x -> x.text(4, 1));

        s.says(T, "or missing (at first).");
        for (int k = 0; k <= 5; k++) {
            int r = k;
            s.finds(BellBalance::new, "row " + r, NOTHING, x -> x.at(r, 0));
        }
        for (int k = 0; k <= 3; k++) {
            int t = k;
            s.finds(BellBalance::new, "text " + t, NOTHING, x -> x.fault(t));
        }
    }

    private static BellBalance rowOf(int r, int n) {
        BellBalance x = new BellBalance();
        x.row(r, n);
        return x;
    }

    private static BellBalance textOf(int t, int n) {
        BellBalance x = new BellBalance();
        x.text(t, n);
        return x;
    }

    private static void towers(Sentences s) {
        s.says(T, "A TOWER (without BELLS at first) is a TEXT:");
        s.is(BellBalance::new, "no bells", 0, x -> x.count(BELLS));
        s.no(BellBalance::new, "bell 0", BAD, x -> x.bell(0, KIND));
        s.is(() -> with("d0b100"), "of a text", 1, x -> x.count(BELLS));

        s.says(T, "blanks (32) ahead, between, behind as many as wanted");
        s.is("none at all", fault("d1b412h918"), NONE);
        s.is("one ahead", fault(" d1b412h918"), NONE);
        s.is("some ahead", fault("     d1b412h918"), NONE);
        s.is("between the damp and a bell", fault("d1    b412h918"), NONE);
        s.is("between bells", fault("d1b412    h918"), NONE);
        s.is("behind", fault("d1b412h918    "), NONE);
        s.is("60 in all", fault(" ".repeat(20) + "d1" + " ".repeat(15) + "b412" + " ".repeat(19)), NONE);
        s.is("31 is no blank", fault("d1" + (char) 31 + "b412"), 2);
        s.is("33 is no blank", fault("d1" + (char) 33 + "b412"), 2);
        s.is("9 is no blank", fault((char) 9 + "d1b412"), 0);
        s.is("10 is no blank", fault("d1b412" + (char) 10), 6);
        s.is("0 is no blank", fault("d1b412" + (char) 0), 6);
        s.is("160 is no blank", fault("d1b412" + (char) 160), 6);

        s.says(T, "none within items (an item: a letter and all its figures).");
        s.is("within the damp's", fault("d 1b412"), 1);
        s.is("ahead of the weight", fault("d1b 412"), 3);
        s.is("ahead of the height", fault("d1b4 12"), 4);
        s.is("within the height", fault("d1b41 2"), 5);

        s.says(T, "First d (100) and how DAMP the ropes are (0 .. 3, one figure).");
        for (int damp = 0; damp <= 3; damp++) {
            int d = damp;
            s.is(() -> with("d" + d + "b100"), "damp " + d, d, x -> x.count(DAMP));
        }
        s.is("damp 4", fault("d4b100"), 1);
        s.is("damp 9", fault("d9b100"), 1);
        s.is("ahead of 0", fault("d/b100"), 1);
        s.is("two figures", fault("d01b100"), 2);
        s.is("no d", fault("b100"), 0);
        s.is("c for d", fault("c0b100"), 0);
        s.is("e for d", fault("e0b100"), 0);
        s.is("D for d", fault("D0b100"), 0);
        s.is("d twice", fault("d0d0b100"), 2);
        s.is("d behind", fault("d0b100d0"), 6);

        s.says(T, "Then BELLS (1 to 6; 0, 1, .. as they come):");
        s.is("none", fault("d0"), 2);
        s.is(() -> with("d0b100"), "1", 1, x -> x.count(BELLS));
        s.is(() -> with("d0b100b101b102b103b104b105"), "6", 6, x -> x.count(BELLS));
        s.is("7", fault("d0b100b101b102b103b104b105b106"), 26);
        for (int bell = 0; bell < 6; bell++) {
            int i = bell;
            s.tells(() -> with("d0b100b101b102b103b104b105"), "bell " + i, 1, i, x -> x.bell(i, HEIGHT));
        }

        s.says(T, "a letter, the WEIGHT (1 .. 9, one figure)");
        for (int weight = 1; weight <= 9; weight++) {
            int w = weight;
            s.tells(() -> with("d0b" + w + "00"), "weight " + w, 1, w, x -> x.bell(0, WEIGHT));
        }
        s.is("weight 0", fault("d0b000"), 3);
        s.is("behind 9", fault("d0b:00"), 3);
        s.is("two figures", fault("d0b1012"), 6);

        s.says(T, "the HEIGHT (two figures, 00 .. 20).");
        for (int height = 0; height <= 20; height++) {
            int h = height;
            s.tells(() -> with(0, BELL, 1, h), "height " + h, 1, h, x -> x.bell(0, HEIGHT));
        }
        s.is("21", fault("d0b121"), 5);
        s.is("29", fault("d0b129"), 5);
        s.is("30", fault("d0b130"), 4);
        s.is("90", fault("d0b190"), 4);
        s.is("one figure", fault("d0b11"), 5);
        s.is("one figure, then a bell", fault("d0b11b100"), 5);
        s.is("three figures", fault("d0b1005"), 6);
    }

    private static void faults(Sentences s) {
        s.says(T, "A FAULT is the first place at which it can't go on so");
        s.is("none", fault("d0b100"), NONE);
        s.is("the first of two", fault("d0b1x0 y"), 4);
        s.is("the first of two, far apart", fault("x0b100 y"), 0);
        s.is("the last sign", fault("d3 t920 x"), 8);

        s.says(T, "(a letter, a figure that is none such");
        everySign(s);

        s.says(T, "a figure by which the HEIGHT would be above 20");
        s.is("the second figure", fault("d0 b121"), 6);
        s.is("the first figure", fault("d0 b130"), 5);
        s.is("20 itself is none", fault("d0 b120"), NONE);
        s.is("19 is none", fault("d0 b119"), NONE);

        s.says(T, "a seventh one: its place");
        s.is("close", fault("d1b101b102b103b104b105b106b107"), 26);
        s.is("behind blanks", fault("d1b101b102b103b104b105b106   b107"), 29);
        s.is("its letter alone", fault("d1b101b102b103b104b105b106b"), 26);
        s.is("behind six blanks alone are fine", fault("d1b101b102b103b104b105b106   "), NONE);

        s.says(T, "the TEXT's size, if its end comes too early");
        String whole = "d1 b412";
        for (int n = 0; n < whole.length(); n++) {
            s.is("'" + whole.substring(0, n) + "'", fault(whole.substring(0, n)), n);
        }
        s.is("the damp, then blanks", fault("d1    "), 6);
        s.is("the second bell's letter", fault("d1b412h"), 7);
        s.is("the second bell's weight", fault("d1b412h9"), 8);
        s.is("the second bell's height", fault("d1b412h91"), 9);
        s.is("at 60", fault(" ".repeat(56) + "d1b4"), 60);

        s.says(T, "or there are blanks alone).");
        s.is("none at all", fault(""), 0);
        s.is("one", fault(" "), 1);
        s.is("60", fault(" ".repeat(60)), 60);
    }

    /* Each sign of a good text in turn is every byte that there is. */
    private static void everySign(Sentences s) {
        String good = "d1b412h918";
        String[] fine = {" d", "0123", LETTERS + " ", "123456789", "012", "0123456789", LETTERS + " ", "123456789", "012", "0123456789"};
        for (int place = 0; place < good.length(); place++) {
            for (int sign = -128; sign <= 127; sign++) {
                BellBalance x = new BellBalance();
                write(x, 1, good);
                x.put(1, place, sign);
                boolean isFine = sign >= 0 && fine[place].indexOf(sign) >= 0;
                int due = isFine ? behindGood(good, place, sign) : place;
                s.is("sign " + sign + " at " + place, x.fault(1), due);
            }
        }
    }

    /* Where a sign is fine by itself, a blank or a tens figure may still spoil the next one. */
    private static int behindGood(String good, int place, int sign) {
        if (sign == ' ') {
            return place + 1;
        }
        boolean tens = place == 4 || place == 8;
        return tens && sign == '2' && good.charAt(place + 1) > '0' ? place + 1 : NONE;
    }

    private static void kinds(Sentences s) {
        s.says(T, "KINDS of BELLS and letters: 0 BELL (b, 98), 1 HEAVY (h, 104; a BELL), 2 QUICK (q, 113; a BELL), 3 BLIND (n, 110; a BELL), 4 GREAT (g, 103; a HEAVY), 5 TREBLE (t, 116; a QUICK).");
        int[] letters = {98, 104, 113, 110, 103, 116};
        for (int kind = 0; kind < 6; kind++) {
            char letter = (char) letters[kind];
            int due = kind;
            s.tells(() -> with("d0" + letter + "110"), "letter " + letter, 1, due, x -> x.bell(0, KIND));
        }
        boolean[][] is = new boolean[6][6];
        for (int kind = 1; kind < 6; kind++) {
            is[kind][kind] = true;
        }
        is[GREAT][HEAVY] = true;
        is[TREBLE][QUICK] = true;
        for (int kind = 0; kind < 6; kind++) {
            for (int of = 1; of < 6; of++) {
                BellBalance x = with(0, kind, 1, 10);
                s.is("a " + kind + " is a " + of, x.mark(0, of) != FINDING ? 1 : 0, is[kind][of] ? 1 : 0);
            }
        }
    }

    private static void heights(Sentences s) {
        s.says(T, "A STROKE of a BELL by a PULL (0 .. 6): the HEIGHT is more by the PULL");
        for (int pull = 0; pull <= 6; pull++) {
            int p = pull;
            s.is(() -> with("d0b110"), "by " + p, 10 + p - 1, x -> x.stroke(0, p));
            s.is(() -> with("d0n110"), "blind, by " + p, 10 + p - 1, x -> x.stroke(0, p));
        }
        s.no(() -> with("d0b110"), "by -1", BAD, x -> x.stroke(0, -1));
        s.no(() -> with("d0b110"), "by 7", BAD, x -> x.stroke(0, 7));

        s.says(T, "(a HEAVY one, GREAT, too: by half of it, cut)");
        int[] half = {0, 0, 1, 1, 2, 2, 3};
        for (int pull = 0; pull <= 6; pull++) {
            int p = pull;
            s.is(() -> with("d0h110"), "heavy, by " + p, 10 + half[p] - 1, x -> x.stroke(0, p));
            s.is(() -> with("d0g110"), "great, by " + p, 10 + half[p] - 1, x -> x.stroke(0, p));
        }

        s.says(T, "less by 1 (a QUICK one, TREBLE, too: not)");
        for (int pull = 0; pull <= 6; pull++) {
            int p = pull;
            s.is(() -> with("d0q110"), "quick, by " + p, 10 + p, x -> x.stroke(0, p));
            s.is(() -> with("d0t110"), "treble, by " + p, 10 + p, x -> x.stroke(0, p));
        }

        s.says(T, "0 at least.");
        s.is(() -> with("d0b100"), "plain at 0, by 0", 0, x -> x.stroke(0, 0));
        s.is(() -> with("d0b100"), "plain at 0, by 1", 0, x -> x.stroke(0, 1));
        s.is(() -> with("d0b101"), "plain at 1, by 0", 0, x -> x.stroke(0, 0));
        s.is(() -> with("d0n100"), "blind at 0, by 0", 0, x -> x.stroke(0, 0));
        s.is(() -> with("d0h100"), "heavy at 0, by 1: half of it is 0", 0, x -> x.stroke(0, 1));
        s.is(() -> with("d0g100"), "great at 0, by 2", 0, x -> x.stroke(0, 2));
        s.is(() -> with("d0q100"), "quick at 0, by 0", 0, x -> x.stroke(0, 0));
    }

    private static void over(Sentences s) {
        s.says(T, "Behind that at 20 or 21 it STANDS (at 20)");
        s.is(() -> with("d0b119"), "at 19", 19, x -> x.stroke(0, 1));
        s.tells(() -> struck("d0b119", 1), "at 19 it does not", 1, 0, x -> x.bell(0, STANDS));
        s.is(() -> with("d0b119"), "at 20", 20, x -> x.stroke(0, 2));
        s.tells(() -> struck("d0b119", 2), "at 20", 1, 1, x -> x.bell(0, STANDS));
        s.is(() -> with("d0b119"), "at 21", 20, x -> x.stroke(0, 3));
        s.tells(() -> struck("d0b119", 3), "at 21", 1, 1, x -> x.bell(0, STANDS));
        s.tells(() -> struck("d0b119", 3), "at 21: whole", 1, 0, x -> x.bell(0, OVER));
        s.is(() -> with("d0g119"), "great at 21", 20, x -> x.stroke(0, 6));
        s.is(() -> with("d0t120"), "treble at 21", 20, x -> x.stroke(0, 1));

        s.says(T, "at 22 or above its STAY breaks: it is OVER, at 0, for good");
        s.is(() -> with("d0b119"), "at 22", 0, x -> x.stroke(0, 4));
        s.tells(() -> struck("d0b119", 4), "at 22: over", 1, 1, x -> x.bell(0, OVER));
        s.tells(() -> struck("d0b119", 4), "at 22: at 0", 1, 0, x -> x.bell(0, HEIGHT));
        s.tells(() -> struck("d0b119", 4), "at 22: stands not", 1, 0, x -> x.bell(0, STANDS));
        s.tells(() -> struck("d0q120", 6), "at 26: over", 1, 1, x -> x.bell(0, OVER));
        s.tells(() -> struck("d0g120", 6), "great at 22: over", 1, 1, x -> x.bell(0, OVER));
        s.tells(() -> struck("d0t120", 2), "treble at 22: over", 1, 1, x -> x.bell(0, OVER));
        BellBalance x = with("d0q120b110", 3, 3);
        x.stroke(0, 6);
        x.round(0);
        x.lots(2, 5);
        s.is("for good", bell(x, 0, OVER), 1);
        s.is("for good, at 0", bell(x, 0, HEIGHT), 0);

        s.says(T, "till the STAY is MENDED (at 0 then).");
        x.mend(0);
        s.is("whole", bell(x, 0, OVER), 0);
        s.is("at 0", bell(x, 0, HEIGHT), 0);
        s.is("it swings", x.stroke(0, 6), 6);

        s.says(T, "A BELL that is OVER has no STROKES.");
        s.no(Scenes::rich, "stroke", STATE, y -> y.stroke(2, 1));
        BellBalance z = with("d0q120b110", 3, 3);
        z.stroke(0, 6);
        s.is("in a round the other one alone is heard", z.round(0), 2);
        z.lots(1, 5);
        s.is("its strokes", bell(z, 0, STROKES), 1);
        s.is("the other one's", bell(z, 1, STROKES), 2);
    }

    private static BellBalance struck(String tower, int pull) {
        BellBalance x = with(tower);
        x.stroke(0, pull);
        return x;
    }

    private static void striking(Sentences s) {
        s.says(T, "It STRIKES, if its HEIGHT (behind the STROKE) is 5 or more");
        s.is(() -> with("d0b105"), "5 ahead, 4 behind it", NONE, x -> x.strikes(0, 0));
        s.is(() -> with("d0b105"), "5 behind it", 12, x -> x.strikes(0, 1));
        s.is(() -> with("d0b104"), "4 ahead, 5 behind it", 12, x -> x.strikes(0, 2));
        s.is(() -> with("d0b100"), "0 ahead, 5 behind it", 12, x -> x.strikes(0, 6));
        s.is(() -> with("d0q104"), "quick at 4", NONE, x -> x.strikes(0, 0));
        s.is(() -> with("d0q105"), "quick at 5", 12, x -> x.strikes(0, 0));
        s.is(() -> with("d0b120"), "a broken one does not", NONE, x -> x.strikes(0, 3));

        s.says(T, "so many tenths behind its PULL: 10, half the HEIGHT (cut), a third of the WEIGHT (cut), less the DAMP; a BLIND one 1 more, a GREAT one 2 more, a TREBLE 1 less.");
        int[] more = {0, 0, 0, 1, 2, -1};
        for (int kind = 0; kind < 6; kind++) {
            int pull = kind == HEAVY || kind == GREAT ? 2 : kind == QUICK || kind == TREBLE ? 0 : 1;
            for (int height = 5; height <= 20; height++) {
                for (int weight = 1; weight <= 9; weight++) {
                    int damp = (height + weight) % 4;
                    int due = 10 + (height - height % 2) / 2 + (weight - weight % 3) / 3 - damp + more[kind];
                    s.is("kind " + kind + ", height " + height + ", weight " + weight + ", damp " + damp, with(damp, kind, weight, height).strikes(0, pull), due);
                }
            }
        }
        s.is(() -> with("d0g920"), "the latest: 10 + 10 + 3 + 2", 25, x -> x.strikes(0, 2));
        s.is(() -> with("d3t105"), "the soonest: 10 + 2 - 3 - 1", 8, x -> x.strikes(0, 0));
    }

    private static void rounds(Sentences s) {
        s.says(T, "A ROUND: each BELL that is not OVER has a STROKE");
        BellBalance x = with("d0q120b110b112", 1, 2, 3);
        x.stroke(0, 6);
        x.round(0);
        s.is("who is over", bell(x, 0, STROKES), 1);
        s.is("who is over, at", bell(x, 0, HEIGHT), 0);
        s.is("the second", bell(x, 1, HEIGHT), 11);
        s.is("the third", bell(x, 2, HEIGHT), 14);
        s.is("the third's strokes", bell(x, 2, STROKES), 1);

        s.says(T, "BELL i being PULLED 2 i tenths behind the first; so it STRIKES 2 i tenths later.");
        for (int place = 0; place < 6; place++) {
            int i = place;
            s.tells(() -> with("d0q110q110q110q110q110q110", 0, 0, 0, 0, 0, 0), "bell " + i, i, 15 + 2 * i, y -> y.heard(0, i));
        }
        s.tells(() -> with("d0q100q110", 0, 0), "behind a silent one", 1, 17, y -> y.heard(0, 0));
        BellBalance z = with("d0q120q110", 0, 0);
        z.stroke(0, 6);
        s.is("behind one that is over", z.heard(0, 0), 1);
        s.is("behind one that is over, when", z.asked(), 17);

        s.says(T, "HEARD are those that STRIKE, by their tenths, of like ones by numbers");
        s.is(() -> with("d0b104b105b120", 1, 1, 3), "4, 5 and 22", 2, y -> y.round(0));
        s.is(() -> with("d0q120q110", 0, 0), "20, and 15 + 2", 1, y -> y.heard(0, 0));
        s.is(() -> with("d0q114q110q106", 0, 0, 0), "17, 15 + 2, 13 + 4: first", 0, y -> y.heard(0, 0));
        s.is(() -> with("d0q114q110q106", 0, 0, 0), "17, 15 + 2, 13 + 4: second", 1, y -> y.heard(0, 1));
        s.is(() -> with("d0q114q110q106", 0, 0, 0), "17, 15 + 2, 13 + 4: third", 2, y -> y.heard(0, 2));

        s.says(T, "the ERROR of a ROUND is the sum of differences of gaps between one HEARD and the next one from 2");
        s.is(() -> with("d0q110q110q110", 0, 0, 0), "gaps 2, 2", 0, y -> y.error(0));
        s.is(() -> with("d0q114q110q106", 0, 0, 0), "gaps 0, 0", 4, y -> y.error(0));
        s.is(() -> with("d0q110q116q110", 0, 0, 0), "15, 20, 19: gaps 4, 1", 3, y -> y.error(0));
        s.is(() -> with("d0q110q100q116", 0, 0, 0), "15, 22: a gap over a silent one, 7", 5, y -> y.error(0));

        s.says(T, "(0, if fewer than two are HEARD).");
        s.is(() -> with("d0q110q100", 0, 0), "one", 0, y -> y.error(0));
        s.is(() -> with("d0q100q100", 0, 0), "none", 0, y -> y.error(0));
        s.is(() -> with("d0q120", 0), "one of one", 0, y -> y.error(0));
    }

    private static void deeds(Sentences s) {
        s.says(T, "What is done: a STROKE, a ROUND, a STAY MENDED. These are DEEDS 0, 1, ..");
        BellBalance x = with("d0q120", 0);
        x.stroke(0, 1);
        s.is("a stroke", x.count(DEEDS), 1);
        x.round(0);
        s.is("a round", x.count(DEEDS), 2);
        x.stroke(0, 6);
        x.mend(0);
        s.is("a stay mended", x.count(DEEDS), 4);
        x.damp(3);
        x.keep(0);
        x.on(0);
        s.is("nothing else is one", x.count(DEEDS), 4);
        s.is("from number 3 on", x.undo(3), 1);

        s.says(T, "(40 at most).");
        s.is(Scenes::full, "40", 40, y -> y.count(DEEDS));
        s.no(Scenes::full, "a stroke more", FULL, y -> y.stroke(0, 0));
        s.no(Scenes::full, "a round more", FULL, y -> y.round(0));
        s.no(Scenes::full, "a mending more", FULL, y -> y.mend(1));
        s.no(Scenes::full, "a round by lots more", FULL, y -> y.lots(1, 1));
        s.is(TermSentences::almostFull, "the 40th a stroke", 5, y -> y.stroke(0, 0));
        s.is(TermSentences::almostFull, "the 40th a round", 1, y -> y.round(0));
        s.is(TermSentences::almostFull, "the 40th a mending", 1, y -> y.mend(1));
        s.is(TermSentences::almostFull, "the 40th by lots", 1, y -> y.lots(1, 1));
    }

    private static BellBalance almostFull() {
        BellBalance x = full();
        x.undo(39);
        return x;
    }

    private static void rowsOfPulls(Sentences s) {
        s.says(T, "PULLS are told in a ROW, one for each BELL (of one that is OVER any 0 .. 6)");
        for (int pull = 0; pull <= 6; pull++) {
            int p = pull;
            s.is(() -> overAnd(p), "of one that is over " + p, 2, x -> x.round(0));
        }
        s.finds(() -> overAnd(7), "of one that is over 7", UNLIKE, x -> x.round(0));
        s.finds(() -> overAnd(-1), "of one that is over -1", UNLIKE, x -> x.round(0));
        s.finds(() -> with("d0b110b110", 1), "one for two", SIZE, x -> x.round(0));

        s.says(T, "or one behind the other of one BELL");
        s.is(() -> with("d0b100b100", 6, 6, 6, 6, 6), "5 10 15 20, then it breaks", 4, x -> x.broke(1, 0));

        s.says(T, "such rows go by their first numbers, then second ones, ..");
        BellBalance x = with("d0b112b110b116");
        x.raise(0, 0);
        s.row("(4, 6) ahead of (5, 5)", x, 0, 4, 6);
        x.arms(1, 2, 10, 0);
        s.row("(0, 2) ahead of (1, 1)", x, 0, 0, 2);
        BellBalance y = with("d0q110q110");
        y.even(0);
        s.row("(0, 0) ahead of (2, 2)", y, 0, 0, 0);
    }

    private static BellBalance overAnd(int pull) {
        BellBalance x = with("d0q120b110");
        x.stroke(0, 6);
        lay(x, 0, pull, 3);
        return x;
    }

    private static void slipsAndLots(Sentences s) {
        s.says(T, "By SLIPS: each PULL is, by p of 12, 1 more than meant.");
        s.chance(() -> with("d0q110"), "none slips", 13, 1, x -> x.mid(0, 3, 1, 0));
        s.chance(() -> with("d0q110"), "each slips", 14, 1, x -> x.mid(0, 3, 1, 12));
        s.chance(() -> with("d0q110"), "by 1 of 12", 157, 12, x -> x.mid(0, 3, 1, 1));
        s.chance(() -> with("d0q110"), "6 slips to 7", 17, 1, x -> x.mid(0, 6, 1, 12));
        s.chance(() -> with("d0h110"), "heavy, 6 slips to 7, half of it 3", 12, 1, x -> x.mid(0, 6, 1, 12));

        s.says(T, "LOTS: a number comes from the one ahead by 48271 times it modulo 2147483647, the first from a seed (1 .. 2147483646).");
        for (int seed : new int[] {1, 2, 77, 48271, 44488, 44489, 1 << 30, 2147483645, 2147483646}) {
            BellBalance x = with("d0q100q100q100q100q100q100");
            s.is("seed " + seed, x.lots(1, seed), 6);
            java.math.BigInteger lot = java.math.BigInteger.valueOf(seed);
            for (int i = 0; i < 6; i++) {
                lot = lot.multiply(java.math.BigInteger.valueOf(48271)).mod(java.math.BigInteger.valueOf(2147483647));
                s.is("seed " + seed + ", number " + i, bell(x, i, HEIGHT), lot.intValue() / 16 % 4);
            }
        }
        s.no(() -> with("d0q100"), "seed 0", BAD, x -> x.lots(1, 0));
        s.no(() -> with("d0q100"), "seed 2147483647", BAD, x -> x.lots(1, MAX));
    }

    private static void asides(Sentences s) {
        s.says(T, "(aside; as it is now; STATE: it is OVER, behind BAD)");
        s.aside(Scenes::rich, "strikes", 15, x -> x.strikes(0, 0));
        s.aside(Scenes::rich, "stands", 64, x -> x.stands(1));
        s.aside(Scenes::rich, "ways", 1, x -> x.ways(1, 1));
        s.aside(Scenes::rich, "hold", 0, x -> x.hold(0, 0));
        s.aside(Scenes::rich, "drops", 8, x -> x.drops(0));
        s.aside(Scenes::rich, "back", 0, x -> x.back(0));
        s.aside(Scenes::rich, "raise, but for its row", 2, x -> torn(x, 3, x.raise(0, 3)));
        s.aside(Scenes::rich, "arms, but for its row", 4, x -> torn(x, 3, x.arms(0, 2, 14, 3)));
        BellBalance y = with("d0b110");
        s.is("at 10", y.strikes(0, 1), 15);
        y.stroke(0, 5);
        s.is("as it is now: at 14", y.strikes(0, 1), 17);
        s.no(Scenes::rich, "OVER", STATE, x -> x.strikes(2, 0));
        s.no(Scenes::rich, "BAD ahead of OVER", BAD, x -> x.strikes(2, 7));

        s.is("what was asked before leaves no trace", tracesLeft("d0b110q118h103", "d1q120g920"), 0);
        s.is("what was asked before leaves no trace", tracesLeft("d1q120g920t111", "d0b110h103q100"), 0);
        s.is("what was asked before leaves no trace", tracesLeft("d3g120h120q114", "d3h102h100"), 0);

        s.says(T, "(aside; STATE: no BELLS)");
        s.aside(Scenes::rich, "error", 5, x -> x.error(0));
        s.aside(Scenes::rich, "heard", 0, x -> x.heard(0, 0));
        s.aside(Scenes::rich, "late", 1, x -> x.late(0));
        s.aside(Scenes::rich, "even, but for its row", 3, x -> torn(x, 3, x.even(3)));
        s.no(BellBalance::new, "orders", STATE, x -> x.orders());
        s.no(BellBalance::new, "even", STATE, x -> x.even(0));
    }

    /* How many answers of a tower are others when all was asked of another tower before, on the same object. */
    private static int tracesLeft(String before, String tower) {
        BellBalance fresh = with(tower);
        List<Long> due = askAll(fresh);
        BellBalance used = with(before);
        askAll(used);
        write(used, 0, tower);
        used.tower(0);
        List<Long> got = askAll(used);
        int traces = got.size() == due.size() ? 0 : 1;
        for (int k = 0; k < Math.min(got.size(), due.size()); k++) {
            traces += got.get(k).equals(due.get(k)) ? 0 : 1;
        }
        return traces;
    }

    /* Every question aside, with what it tells; rows 3 to 5 come by it, and are seen by the digest. */
    private static List<Long> askAll(BellBalance x) {
        List<Long> all = new ArrayList<>();
        int bells = x.count(BELLS);
        x.row(0, bells);
        x.row(2, bells);
        for (int i = 0; i < bells; i++) {
            x.lay(0, i, 1);
            x.lay(2, i, bells - 1 - i);
        }
        lay(x, 1, 6, NONE);
        for (int r = 3; r <= 5; r++) {
            x.row(r, 0);
        }
        for (int i = 0; i < bells; i++) {
            askOf(x, i, all);
        }
        for (long answer : new long[] {x.error(0), x.asked(), x.heard(0, 0), x.asked(), x.late(0), x.asked(), x.even(4), x.orders(), x.change(2, 5), x.digest()}) {
            all.add(answer);
        }
        return all;
    }

    private static void askOf(BellBalance x, int i, List<Long> all) {
        long[] answers = {x.strikes(i, 1), x.stands(i), x.asked(), x.raise(i, 3), x.digest(), x.ways(i, 5), x.upper(), x.lower(), x.arms(i, 4, 14, 3), x.digest(),
            x.hold(i, 17), x.asked(), x.drops(i), x.back(i), x.game(i, 3), x.first(i, 1), x.first(i, 3), x.game(i, 0),
            x.odds(i, 2, 4, 5), x.upper(), x.lower(), x.mid(i, 2, 4, 5), x.upper(), x.lower(), x.broke(i, 0), x.asked()};
        for (long answer : answers) {
            all.add(answer);
        }
        x.tear(3);
        for (long answer : new long[] {x.kinds(i, 1), x.damps(i, 1), x.heights(i, 1)}) {
            all.add(answer);
        }
    }

    /* The answer, when the row that came by it is torn again. */
    private static int torn(BellBalance x, int r, int answer) {
        x.tear(r);
        return answer;
    }
}
