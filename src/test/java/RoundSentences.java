/** Sentences of promises 29 to 34: a round, aside. */
final class RoundSentences extends Scenes {
    private RoundSentences() {
    }

    static void test(Sentences s) {
        error29(s);
        heard30(s);
        even31(s);
        change32(s);
        orders33(s);
        late34(s);
    }

    private interface ByRow {
        int by(BellBalance x, int r);
    }

    private static final String IN_ORDER = "STATE; NOTHING; SIZE; UNLIKE. (In this order.)";

    /* What refuses pulls in a row, for error(), heard(), late(). */
    private static void refusals(Sentences s, ByRow call) {
        s.no(BellBalance::new, "no bells, a missing row", STATE, x -> call.by(x, 0));
        s.no(RoundSentences::rowAlone, "no bells, a row of no pull", STATE, x -> call.by(x, 0));
        s.finds(Scenes::rich, "missing", NOTHING, x -> call.by(x, 3));
        s.finds(Scenes::rich, "none", SIZE, x -> call.by(x, 2));
        s.finds(() -> with("d0b110b110", 1), "one too few", SIZE, x -> call.by(x, 0));
        s.finds(() -> with("d0b110b110", 1, 1, 1), "one too many", SIZE, x -> call.by(x, 0));
        s.finds(() -> with("d0b110b110", 9, 9, 9), "SIZE ahead of UNLIKE", SIZE, x -> call.by(x, 0));
        for (int pull : new int[] {-1, 7, MIN, MAX}) {
            s.finds(() -> with("d0b110b110", pull, 1), "first " + pull, UNLIKE, x -> call.by(x, 0));
            s.finds(() -> with("d0b110b110", 1, pull), "last " + pull, UNLIKE, x -> call.by(x, 0));
            s.finds(() -> overAnd("d0q120b110", pull, 1), pull + " of one that is over", UNLIKE, x -> call.by(x, 0));
        }
    }

    private static void badRows(Sentences s, ByRow call) {
        for (int r : new int[] {-1, 6, MIN, MAX}) {
            s.no(Scenes::rich, "row " + r, BAD, x -> call.by(x, r));
            s.no(BellBalance::new, "row " + r + ", ahead of STATE", BAD, x -> call.by(x, r));
        }
    }

    private static BellBalance rowAlone() {
        BellBalance x = new BellBalance();
        lay(x, 0, 9);
        return x;
    }

    /* Bell 0 is broken by a 6, and row 0 laid. */
    private static BellBalance overAnd(String tower, int... row) {
        BellBalance x = with(tower, row);
        x.stroke(0, 6);
        return x;
    }

    /* All bells are broken by a 6 each, and row 0 laid. */
    private static BellBalance allOver(String tower, int bells, int... row) {
        BellBalance x = with(tower, row);
        for (int i = 0; i < bells; i++) {
            x.stroke(i, 6);
        }
        return x;
    }

    private static void error29(Sentences s) {
        s.says(29, "The ERROR of a ROUND by PULLS in a ROW");
        s.is(() -> with(SIX, 1, 2, 0, 1, 3, 0), "16 19 23 23 27 29: 1 2 2 2 0", 7, x -> x.error(0));
        s.is(() -> with(SIX, 1, 2, 2, 0, 3, 0), "16 23 27 29: 5 2 0", 7, x -> x.error(0));
        s.is(() -> with("d0q110q110q110q110q110q110", 0, 0, 0, 0, 0, 0), "even", 0, x -> x.error(0));
        s.is(() -> with("d0b100b100b120", 0, 0, 0), "one is heard", 0, x -> x.error(0));
        s.is(() -> with("d0b100", 0), "nobody is heard", 0, x -> x.error(0));
        s.is(() -> overAnd("d0q120b110b110", 0, 1, 1), "who is over is not heard", 0, x -> x.error(0));
        s.is(() -> allOver("d0q120", 1, 3), "all are over", 0, x -> x.error(0));
        s.aside(Scenes::rich, "nothing changes", 5, x -> x.error(0));

        s.says(29, "BELLS that are HEARD by asked() (bits).");
        s.tells(() -> with(SIX, 1, 2, 0, 1, 3, 0), "all", 7, 63, x -> x.error(0));
        s.tells(() -> with(SIX, 1, 2, 2, 0, 3, 0), "all but 2 and 3", 7, 51, x -> x.error(0));
        s.tells(Scenes::rich, "all but 2, who is over", 5, 59, x -> x.error(0));
        s.tells(() -> with("d0b100", 0), "nobody", 0, 0, x -> x.error(0));

        s.says(29, "BAD;");
        badRows(s, (x, r) -> x.error(r));

        s.says(29, IN_ORDER);
        refusals(s, (x, r) -> x.error(r));
    }

    private static void heard30(Sentences s) {
        s.says(30, "Who is HEARD in a place (0, 1, ..) of that ROUND; when by asked().");
        int[] who = {0, 3, 1, 2, 5, 4};
        int[] when = {16, 19, 23, 23, 27, 29};
        for (int k = 0; k < 6; k++) {
            int place = k;
            s.tells(() -> with(SIX, 1, 2, 0, 1, 3, 0), "place " + k, who[k], when[k], x -> x.heard(0, place));
        }
        s.tells(Scenes::rich, "without the one that is over", 5, 27, x -> x.heard(0, 3));
        s.aside(Scenes::rich, "nothing changes", 5, x -> x.heard(0, 3));

        s.says(30, "NONE: nobody is.");
        s.no(Scenes::rich, "the place behind the last", NONE, x -> x.heard(0, 5));
        s.is(Scenes::rich, "the last place", 4, x -> x.heard(0, 4));
        s.no(() -> with("d0b100", 0), "the first place", NONE, x -> x.heard(0, 0));
        s.no(() -> allOver("d0q120", 1, 3), "all are over", NONE, x -> x.heard(0, 0));

        s.says(30, "BAD: below 0, above 5;");
        for (int place : new int[] {-1, 6, MIN, MAX}) {
            s.no(Scenes::rich, "place " + place, BAD, x -> x.heard(0, place));
            s.no(BellBalance::new, "place " + place + ", ahead of STATE", BAD, x -> x.heard(0, place));
            s.no(Scenes::rich, "place " + place + ", ahead of NOTHING", BAD, x -> x.heard(3, place));
        }
        s.no(() -> with("d0b110", 1), "place 5 of one bell is none", NONE, x -> x.heard(0, 5));
        badRows(s, (x, r) -> x.heard(r, 0));

        s.says(30, IN_ORDER);
        refusals(s, (x, r) -> x.heard(r, 5));
    }

    private static void evens(Sentences s, String what, BellBalance x, int error, int... pulls) {
        s.is(what, x.even(1), error);
        s.row(what, x, 1, pulls);
    }

    private static void even31(Sentences s) {
        s.says(31, "The least ERROR of ROUNDS by which all BELLS that are not OVER are HEARD, and none comes to be");
        // 0: at 9 to 15, 14 to 17; 1: at 19, 20 (by 0 to 2), 19 or 20, and 2 later
        s.is(() -> with("d0b110b120"), "17 and 21", 2, x -> x.even(0));
        s.is(() -> with("d0b114b110"), "16 and 18", 0, x -> x.even(0));
        s.is(() -> with("d0b110"), "one alone", 0, x -> x.even(0));
        s.is(() -> with("d0b103b110"), "0 is not heard by less than 3, at 14 by 6; 16 at least", 0, x -> x.even(0));
        s.is(() -> with("d0q120b118"), "0 would break from 2 on: 20, and 18 to 20 and 2 later", 0, x -> x.even(0));
        s.is(() -> overAnd("d0q120b110b100"), "without the one that is over", 0, x -> x.even(0));
        s.is(() -> with("d0q120g920"), "20 and 26, as none may break", 4, x -> x.even(0));
        s.is(RoundSentences::oneBetween, "12 and 28, as who is over does not come between", 14, x -> x.even(0));

        s.says(31, "the first such row of PULLS comes to a ROW (anew; 0 for who is OVER).");
        evens(s, "17 (by 5, not 6) and 21 (by 0)", with("d0b110b120"), 2, 5, 0);
        evens(s, "16 and 18", with("d0b114b110"), 0, 0, 3);
        evens(s, "one alone: by the least", with("d0b105"), 0, 1);
        evens(s, "one alone: at 4", with("d0b104"), 0, 2);
        evens(s, "all even from the first", with("d0q110q110q110"), 0, 0, 0, 0);
        evens(s, "0 for who is over", overAnd("d0q120b110b100", 5, 5, 5), 0, 0, 3, 6);
        evens(s, "all over", allOver("d0q120q120", 2), 0, 0, 0);
        evens(s, "six: 12 each by the least pulls", with("d0b100b101b102b103b104b105"), 0, 6, 5, 4, 3, 2, 1);
        evens(s, "none may break", with("d0q120g920"), 4, 0, 0);
        evens(s, "whatever was heard before", heardBefore(), 0, 0, 0);
        BellBalance y = with("d0b110b120", 9, 9, 9, 9);
        s.is("in the place of another", y.even(0), 2);
        s.row("in the place of another", y, 0, 5, 0);
        s.is("aside", y.count(DEEDS), 0);
        y.stroke(0, 6);
        y.stroke(0, 6);
        y.stroke(0, 6);
        evens(s, "0 for who is over now, though it had 5 before", y, 0, 0, 0);

        s.says(31, "NONE: there is none.");
        s.no(() -> with("d0b110h102", 5, 5, 5), "one is too low", NONE, x -> x.even(0));
        s.no(() -> with("d0b110h102", 5, 5, 5), "one is too low, a missing row stays so", NONE, x -> x.even(1));
        s.is(() -> with("d0b110h103", 5, 5, 5), "by 6 it is not: it strikes at 14, the other one at 16", 0, x -> x.even(0));
        s.no(() -> with("d0h100"), "one alone", NONE, x -> x.even(0));
        s.no(RoundSentences::sunk, "there was one before", NONE, x -> x.even(0));

        s.says(31, "BAD; STATE.");
        badRows(s, (x, r) -> x.even(r));
        s.no(BellBalance::new, "no bells", STATE, x -> x.even(0));
    }

    /* Bell 1 is over; were it not, it could strike between the others. */
    private static BellBalance oneBetween() {
        BellBalance x = with("d0h103q120g920");
        x.stroke(1, 6);
        return x;
    }

    private static BellBalance heardBefore() {
        BellBalance x = with("d0q110q110", 6, 6);
        x.late(0);
        return x;
    }

    /* It could be heard once, and was; now it is too low. */
    private static BellBalance sunk() {
        BellBalance x = with("d0h103");
        x.even(0);
        x.stroke(0, 0);
        return x;
    }

    private static void changes(Sentences s, String what, BellBalance x, int error, int... pulls) {
        s.is(what, x.change(0, 1), error);
        s.row(what, x, 1, pulls);
    }

    private static void change32(Sentences s) {
        s.says(32, "The first such ROUND in which they are HEARD by an order in a ROW (all that are not OVER, each once) comes to another ROW (anew): its ERROR.");
        changes(s, "14 and 21", with("d0b110b120", 0, 1), 5, 0, 0);
        changes(s, "16 and 16: of like ones by numbers", with("d0b114b110", 0, 1), 2, 0, 0);
        changes(s, "17 and 16: not of like ones", with("d0b114b110", 1, 0), 1, 1, 0);
        changes(s, "one alone: the least by which it strikes", with("d0b104", 0), 0, 2);
        changes(s, "0 for who is over", overAnd("d0q120b110b100", 1, 2), 2, 0, 0, 6);
        changes(s, "the last one first", overAnd("d0q120b110b100", 2, 1), 1, 0, 1, 6);
        changes(s, "all over", allOver("d0q120q120", 2), 0, 0, 0);
        changes(s, "six, the first one last: 13 15 17 19 21, 22", with("d0b720t105t105t105t105t105", 1, 2, 3, 4, 5, 0), 1, 1, 0, 0, 0, 0, 0);
        changes(s, "six, the last one by 1", with("d0b100b101b102b103b104b105", 0, 1, 2, 3, 4, 5), 0, 6, 5, 4, 3, 2, 1);
        BellBalance w = with("d0b114b110b118", 1, 0, 2);
        s.is("16, 17, 22", w.change(0, 1), 4);
        s.row("16, 17, 22", w, 1, 1, 0, 0);
        w.stroke(0, 6);
        w.stroke(0, 6);
        lay(w, 0, 1, 2);
        changes(s, "0 for who is over now, though it had 1 before: 16, 22", w, 4, 0, 0, 0);
        BellBalance y = with("d0b114b110", 1, 0);
        lay(y, 2, 7, 7, 7, 7, 7);
        s.is("anew", y.change(0, 2), 1);
        s.row("anew", y, 2, 1, 0);
        s.row("the order stays", y, 0, 1, 0);
        s.is("aside", y.count(DEEDS), 0);
        BellBalance z = with("d0b114b110", 1, 0);
        s.is("to its own row", z.change(0, 0), 1);
        s.row("to its own row", z, 0, 1, 0);

        s.says(32, "NONE: there is none.");
        s.no(() -> with("d0b110b120", 1, 0), "21 is behind 17", NONE, x -> x.change(0, 1));
        s.no(() -> with("d0b110b120", 1, 0), "its own row stays", NONE, x -> x.change(0, 0));
        s.no(() -> with("d0b110b111", 1, 0), "17 is not behind 17 of a greater number, and a pull of 7 is none", NONE, x -> x.change(0, 1));
        s.no(() -> with("d0b110h102", 0, 1), "one is too low", NONE, x -> x.change(0, 1));
        s.no(() -> with("d0b110h102", 1, 0), "the first one is too low", NONE, x -> x.change(0, 1));

        s.says(32, "BAD;");
        badRows(s, (x, r) -> x.change(r, 0));
        badRows(s, (x, r) -> x.change(0, r));

        s.says(32, IN_ORDER);
        s.no(BellBalance::new, "no bells, a missing row", STATE, x -> x.change(0, 1));
        s.no(RoundSentences::rowAlone, "no bells, a row", STATE, x -> x.change(0, 1));
        s.finds(Scenes::rich, "missing", NOTHING, x -> x.change(3, 1));
        s.finds(() -> with("d0b110b110", 0), "one too few", SIZE, x -> x.change(0, 1));
        s.finds(() -> with("d0b110b110", 0, 1, 0), "one too many", SIZE, x -> x.change(0, 1));
        s.finds(() -> with("d0b110b110", 9, 9, 9), "SIZE ahead of UNLIKE", SIZE, x -> x.change(0, 1));
        s.finds(Scenes::rich, "as many as there are bells, though one is over", SIZE, x -> x.change(0, 1));
        s.finds(() -> allOver("d0q120", 1, 0), "one, when all are over", SIZE, x -> x.change(0, 1));
        s.finds(() -> with("d0b110b110", 0, 0), "one twice", UNLIKE, x -> x.change(0, 1));
        s.finds(() -> overAnd("d0q120b110b110", 0, 1), "one that is over", UNLIKE, x -> x.change(0, 1));
        for (int i : new int[] {-1, 2, 31, 32, 33, MIN, MAX}) {
            s.finds(() -> with("d0b110b110", 0, i), "no bell " + i, UNLIKE, x -> x.change(0, 1));
        }
    }

    private static void orders33(Sentences s) {
        s.says(33, "In how many unlike orders they can be HEARD in such a ROUND.");
        s.is(() -> with("d0b110"), "one alone", 1, x -> x.orders());
        s.is(() -> with("d0b110b120"), "one order", 1, x -> x.orders());
        s.is(() -> with("d0b114b110"), "both orders", 2, x -> x.orders());
        s.is(() -> with("d0b110b111"), "one order, as a pull of 7 is none", 1, x -> x.orders());
        // 0 by 0 to 6: 15 to 18 (at 10 to 16); 1: 17 to 20; 2: 19 to 22; 0 comes behind 1 by 18 alone, 1 behind 2 by 20, 0 never behind 2
        s.is(() -> with("d0q110q110q110"), "three orders", 3, x -> x.orders());
        s.is(() -> overAnd("d0q120b114b110"), "without the one that is over: 18 to 21, 18 to 21", 2, x -> x.orders());
        s.is(() -> with("d0b110h102"), "one is too low", 0, x -> x.orders());
        s.is(() -> allOver("d0q120q120", 2), "all over: that of none", 1, x -> x.orders());
        s.aside(Scenes::rich, "nothing changes", everyOrder(), x -> x.orders());

        s.says(33, "STATE.");
        s.no(BellBalance::new, "no bells", STATE, x -> x.orders());
    }

    /* Of the rich scene: each order of its five bells by change(), which is asked on objects of their own. */
    private static int everyOrder() {
        int orders = 0;
        int[] ringing = {0, 1, 3, 4, 5};
        for (int k = 0; k < 3125; k++) {
            int[] order = new int[5];
            for (int place = 0, left = k; place < 5; place++, left /= 5) {
                order[place] = ringing[left % 5];
            }
            BellBalance x = rich();
            lay(x, 0, order);
            orders += x.change(0, 1) >= 0 ? 1 : 0;
        }
        return orders;
    }

    private static void late34(Sentences s) {
        s.says(34, "Who is late: of PULLS in a ROW, that are HEARD, the one whose gap to the one ahead is greatest");
        s.is(() -> with("d0q110q116q110", 0, 0, 0), "15, 19, 20: bell 2 is 4 behind", 2, x -> x.late(0));
        s.is(() -> with("d0q110q110", 0, 0), "the second of two", 1, x -> x.late(0));
        s.is(() -> with("d0q120q110", 0, 0), "17, then 20", 0, x -> x.late(0));
        s.is(() -> with("d0q110q100q110", 0, 0, 0), "who is silent is not", 2, x -> x.late(0));
        s.is(() -> overAnd("d0q120q110q110", 0, 0, 0), "nor who is over", 2, x -> x.late(0));
        s.aside(Scenes::rich, "nothing changes", 1, x -> x.late(0));

        s.says(34, "(the first HEARD)");
        s.is(() -> with("d0q110q110q110", 0, 0, 0), "gaps 2, 2", 1, x -> x.late(0));
        s.is(() -> with(SIX, 1, 2, 0, 1, 3, 0), "gaps 3 4 0 4 2", 1, x -> x.late(0));
        s.is(() -> with("d0q114q110q106", 0, 0, 0), "gaps 0, 0", 1, x -> x.late(0));

        s.says(34, "that gap by asked().");
        s.tells(() -> with("d0q110q116q110", 0, 0, 0), "4", 2, 4, x -> x.late(0));
        s.tells(() -> with("d0q114q110q106", 0, 0, 0), "0", 1, 0, x -> x.late(0));

        s.says(34, "NONE: fewer than two are HEARD.");
        s.no(() -> with("d0q110q100", 0, 0), "one", NONE, x -> x.late(0));
        s.no(() -> with("d0q100q100", 0, 0), "none", NONE, x -> x.late(0));
        s.no(() -> allOver("d0q120q120", 2, 0, 0), "all over", NONE, x -> x.late(0));

        s.says(34, "BAD;");
        badRows(s, (x, r) -> x.late(r));

        s.says(34, IN_ORDER);
        refusals(s, (x, r) -> x.late(r));
    }
}
