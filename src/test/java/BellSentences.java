/** Sentences of promises 21 to 28: one bell, aside. */
final class BellSentences extends Scenes {
    private BellSentences() {
    }

    static void test(Sentences s) {
        strikes21(s);
        stands22(s);
        raise23(s);
        ways24(s);
        arms25(s);
        hold26(s);
        drops27(s);
        back28(s);
    }

    private interface OfBell {
        int of(BellBalance x, int i);
    }

    /* BAD for no such bell, whatever else; STATE behind it for one that is OVER. */
    private static void refusals(Sentences s, int promise, OfBell call) {
        s.says(promise, "BAD; STATE.");
        for (int i : new int[] {-1, 6, MIN, MAX}) {
            s.no(Scenes::rich, "bell " + i, BAD, x -> call.of(x, i));
        }
        s.no(() -> with("d0b110b110"), "the bell behind the last", BAD, x -> call.of(x, 2));
        s.no(BellBalance::new, "no bells", BAD, x -> call.of(x, 0));
        s.no(Scenes::rich, "over", STATE, x -> call.of(x, 2));
    }

    /* A number that is not as told: BAD, also of a bell that is OVER. */
    private static void bad(Sentences s, String what, OfBell call) {
        s.no(Scenes::rich, what, BAD, x -> call.of(x, 0));
        s.no(Scenes::rich, what + ", ahead of STATE", BAD, x -> call.of(x, 2));
    }

    private static void strikes21(Sentences s) {
        s.says(21, "In how many tenths a BELL would STRIKE by a PULL.");
        s.is(() -> with(SIX), "plain at 11: 10 + 5 + 1 - 1", 15, x -> x.strikes(0, 0));
        s.is(() -> with(SIX), "plain at 17: 10 + 8 + 1 - 1", 18, x -> x.strikes(0, 6));
        s.is(() -> with(SIX), "heavy at 18: 10 + 9 + 3 - 1", 21, x -> x.strikes(1, 3));
        s.is(() -> with(SIX), "quick at 21, which is 20: 10 + 10 - 1", 19, x -> x.strikes(2, 1));
        s.is(() -> with(SIX), "blind at 5: 10 + 2 + 1 - 1 + 1", 13, x -> x.strikes(3, 1));
        s.is(() -> with(SIX), "great at 15: 10 + 7 + 2 - 1 + 2", 20, x -> x.strikes(4, 0));
        s.is(() -> with(SIX), "treble at 19: 10 + 9 - 1 - 1", 17, x -> x.strikes(5, 0));
        s.aside(Scenes::rich, "nothing changes", 18, x -> x.strikes(0, 6));

        s.says(21, "NONE: not (or its STAY would break).");
        s.no(() -> with(SIX), "at 4", NONE, x -> x.strikes(3, 0));
        s.no(() -> with(SIX), "at 22", NONE, x -> x.strikes(2, 2));
        s.no(() -> with(SIX), "at 26", NONE, x -> x.strikes(2, 6));
        s.no(() -> with("d0h100"), "at 2", NONE, x -> x.strikes(0, 6));

        refusals(s, 21, (x, i) -> x.strikes(i, 1));
        for (int pull : new int[] {-1, 7, MIN, MAX}) {
            bad(s, "pull " + pull, (x, i) -> x.strikes(i, pull));
        }
    }

    private static void stands22(Sentences s) {
        s.says(22, "PULLS (bits) by which it would STAND");
        s.is(() -> with("d0b114"), "plain at 14: none, 19 at most", 0, x -> x.stands(0));
        s.is(() -> with("d0b115"), "plain at 15: 6", 64, x -> x.stands(0));
        s.is(() -> with("d0b116"), "plain at 16: 5, 6", 96, x -> x.stands(0));
        s.is(() -> with("d0b120"), "plain at 20: 1, 2", 6, x -> x.stands(0));
        s.is(() -> with("d0q120"), "quick at 20: 0, 1", 3, x -> x.stands(0));
        s.is(() -> with("d0t114"), "treble at 14: 6", 64, x -> x.stands(0));
        s.is(() -> with("d0h117"), "heavy at 17: 19 at most", 0, x -> x.stands(0));
        s.is(() -> with("d0h118"), "heavy at 18: 6", 64, x -> x.stands(0));
        s.is(() -> with("d0g120"), "great at 20: 2 to 5", 60, x -> x.stands(0));
        s.aside(Scenes::rich, "nothing changes", 0, x -> x.stands(0));

        s.says(22, "by which its STAY would break by asked().");
        s.tells(() -> with("d0b116"), "plain at 16: 21 at most", 96, 0, x -> x.stands(0));
        s.tells(() -> with("d0b117"), "plain at 17: 6", 16 + 32, 64, x -> x.stands(0));
        s.tells(() -> with("d0b120"), "plain at 20: 3 to 6", 6, 120, x -> x.stands(0));
        s.tells(() -> with("d0q120"), "quick at 20: 2 to 6", 3, 124, x -> x.stands(0));
        s.tells(() -> with("d0g119"), "great at 19: none", 16 + 32 + 64, 0, x -> x.stands(0));
        s.tells(() -> with("d0g120"), "great at 20: 6", 60, 64, x -> x.stands(0));
        s.tells(Scenes::rich, "none", 0, 0, x -> x.stands(0));

        refusals(s, 22, (x, i) -> x.stands(i));
    }

    private static void raises(Sentences s, String tower, int... due) {
        BellBalance x = with(tower, 9, 9, 9);
        s.is(tower, x.raise(0, 0), due.length);
        s.row(tower, x, 0, due);
    }

    private static void raise23(Sentences s) {
        s.says(23, "The fewest STROKES (0: it does now) by which it STANDS, its STAY whole");
        s.is(() -> with("d0b120"), "0", 0, x -> x.raise(0, 0));
        s.is(() -> with("d0b119"), "1", 1, x -> x.raise(0, 0));
        s.is(() -> with("d0b115"), "1, by 6", 1, x -> x.raise(0, 0));
        s.is(() -> with("d0b114"), "2", 2, x -> x.raise(0, 0));
        s.is(() -> with("d0b100"), "4", 4, x -> x.raise(0, 0));
        s.is(() -> with("d0h100"), "10, by 2 each", 10, x -> x.raise(0, 0));
        s.is(() -> with("d0g101"), "10, from 1", 10, x -> x.raise(0, 0));
        s.is(() -> with("d0g102"), "9, from 2", 9, x -> x.raise(0, 0));
        s.is(() -> with("d0t100"), "4, by 6 each", 4, x -> x.raise(0, 0));
        s.is(() -> with("d0t102"), "3, by 6 each", 3, x -> x.raise(0, 0));

        s.says(23, "the first such row of PULLS comes to a ROW (anew).");
        raises(s, "d0b120");
        raises(s, "d0b119", 2);
        raises(s, "d0b115", 6);
        raises(s, "d0b112", 4, 6);
        raises(s, "d0b100", 6, 6, 6, 6);
        raises(s, "d0q119", 1);
        raises(s, "d0q101", 1, 6, 6, 6);
        raises(s, "d0n117", 4);
        raises(s, "d0h100", 6, 6, 6, 6, 6, 6, 6, 6, 6, 6);
        raises(s, "d0g101", 4, 6, 6, 6, 6, 6, 6, 6, 6, 6);
        raises(s, "d0h119", 4);
        BellBalance x = rich();
        s.is("to a missing one", x.raise(0, 5), 2);
        s.row("to a missing one", x, 5, 4, 6);
        s.is("the others stay", x.count(ROWS), 4);
        s.is("aside", bell(x, 0, HEIGHT), 12);

        s.says(23, "NONE: not by 30.");
        for (int kind = 0; kind < 6; kind++) {
            for (int height = 0; height <= 20; height++) {
                BellBalance y = with(0, kind, 1, height);
                int fewest = y.raise(0, 0);
                s.is("every one can, kind " + kind + " at " + height, fewest >= 0 && fewest <= 30 ? 1 : 0, 1);
                for (int k = 0; k < fewest; k++) {
                    y.at(0, k);
                    y.stroke(0, y.asked());
                }
                s.is("and does, kind " + kind + " at " + height, bell(y, 0, STANDS), 1);
            }
        }

        refusals(s, 23, (y, i) -> y.raise(i, 0));
        for (int r : new int[] {-1, 6, MIN, MAX}) {
            bad(s, "row " + r, (y, i) -> y.raise(i, r));
        }
    }

    private static void ways24(Sentences s) {
        s.says(24, "How many rows of n (0 .. 12) PULLS leave it STANDING, its STAY whole all the time");
        s.chance(() -> with("d0b120"), "none, standing", 1, 1, x -> x.ways(0, 0));
        s.chance(() -> with("d0b119"), "none, not standing", 0, 1, x -> x.ways(0, 0));
        s.chance(() -> with("d0b119"), "one: 2, 3", 2, 1, x -> x.ways(0, 1));
        s.chance(() -> with("d0b112"), "two: (4,6) (5,5) (5,6) (6,4) (6,5)", 5, 1, x -> x.ways(0, 2));
        s.chance(() -> with("d0q120"), "12: 0 or 1 each", 4096, 1, x -> x.ways(0, 12));
        s.chance(() -> with("d0g120"), "one: 2 to 5", 4, 1, x -> x.ways(0, 1));
        s.chance(() -> with("d0b100"), "three are too few", 0, 1, x -> x.ways(0, 3));
        s.chance(() -> with("d0b100"), "four: all by 6", 1, 1, x -> x.ways(0, 4));
        s.chance(() -> with("d0h100"), "twelve, heavy", waysOf(HEAVY, 0, 12), 1, x -> x.ways(0, 12));
        s.chance(() -> with("d0h117"), "twelve, more than an int holds", 2926966240L, 1, x -> x.ways(0, 12));
        s.chance(() -> with("d0b110"), "twelve", waysOf(BELL, 10, 12), 1, x -> x.ways(0, 12));
        s.chance(() -> with("d0q118"), "twelve, quick", waysOf(QUICK, 18, 12), 1, x -> x.ways(0, 12));

        s.says(24, "told by upper() (lower() is 1): 1.");
        BellBalance y = with("d0b112");
        y.odds(0, 6, 2, 5);
        s.is("answers", y.ways(0, 2), 1);
        s.is("upper", y.upper(), 5);
        s.is("lower", y.lower(), 1);
        s.aside(Scenes::rich, "nothing else changes", 1, x -> x.ways(0, 2));

        refusals(s, 24, (x, i) -> x.ways(i, 1));
        for (int n : new int[] {-1, 13, MIN, MAX}) {
            bad(s, "n " + n, (x, i) -> x.ways(i, n));
        }
    }

    private static void arms(Sentences s, String tower, int n, int height, int sum, int... due) {
        BellBalance x = with(tower, 9, 9, 9);
        s.is(tower + ", " + n + " to " + height, x.arms(0, n, height, 0), sum);
        s.row(tower + ", " + n + " to " + height, x, 0, due);
    }

    private static void arms25(Sentences s) {
        s.says(25, "The least sum of n (0 .. 12) PULLS that leave it at a HEIGHT (0 .. 20), its STAY whole");
        s.is(() -> with("d0b112"), "12 to 20 by 4", 12, x -> x.arms(0, 4, 20, 0));
        s.is(() -> with("d0b119"), "to 20, not to 21", 2, x -> x.arms(0, 1, 20, 0));
        s.is(() -> with("d0b112"), "none", 0, x -> x.arms(0, 0, 12, 0));
        s.is(() -> with("d0b112"), "12 down to 0", 0, x -> x.arms(0, 12, 0, 0));
        s.is(() -> with("d0b112"), "12 to 12 by 12", 12, x -> x.arms(0, 12, 12, 0));
        s.is(() -> with("d0b120"), "20 to 20: 1 each", 12, x -> x.arms(0, 12, 20, 0));
        s.is(() -> with("d0q120"), "quick, 20 to 20", 0, x -> x.arms(0, 12, 20, 0));
        s.is(() -> with("d0h100"), "heavy, 0 to 3 by 3", 10, x -> x.arms(0, 3, 3, 0));

        s.says(25, "the first such row comes to a ROW (anew).");
        arms(s, "d0b112", 4, 20, 12, 0, 0, 6, 6);
        arms(s, "d0b119", 1, 20, 2, 2);
        arms(s, "d0b112", 0, 12, 0);
        arms(s, "d0h100", 3, 3, 10, 0, 4, 6);
        arms(s, "d0h100", 12, 0, 0, 0, 0, 0, 0, 0, 0, 0, 0, 0, 0, 0, 0);
        arms(s, "d0q110", 3, 13, 3, 0, 0, 3);
        arms(s, "d0b101", 2, 1, 2, 0, 2);
        BellBalance y = rich();
        s.is("to a missing one", y.arms(0, 2, 14, 3), 4);
        s.row("to a missing one", y, 3, 0, 4);
        s.is("aside", bell(y, 0, HEIGHT), 12);

        s.says(25, "NONE: none do.");
        s.no(() -> with("d0b112", 9, 9), "none, another height", NONE, x -> x.arms(0, 0, 13, 0));
        s.no(() -> with("d0b112", 9, 9), "too high for one", NONE, x -> x.arms(0, 1, 18, 0));
        s.no(() -> with("d0b112", 9, 9), "too low for one", NONE, x -> x.arms(0, 1, 10, 0));
        s.no(() -> with("d0q112", 9, 9), "quick ones do not sink", NONE, x -> x.arms(0, 12, 11, 0));
        s.no(() -> with("d0b120", 9, 9), "20 to 0 by 12", NONE, x -> x.arms(0, 12, 0, 0));
        s.no(() -> with("d0b120", 9, 9), "a missing row stays so", NONE, x -> x.arms(0, 12, 0, 1));

        refusals(s, 25, (x, i) -> x.arms(i, 1, 10, 0));
        for (int n : new int[] {-1, 13, MIN, MAX}) {
            bad(s, "n " + n, (x, i) -> x.arms(i, n, 10, 0));
        }
        for (int height : new int[] {-1, 21, MIN, MAX}) {
            bad(s, "height " + height, (x, i) -> x.arms(i, 1, height, 0));
        }
        for (int r : new int[] {-1, 6, MIN, MAX}) {
            bad(s, "row " + r, (x, i) -> x.arms(i, 1, 10, r));
        }
    }

    private static void hold26(Sentences s) {
        s.says(26, "The PULL (the least) by which it STRIKES nearest to so many tenths (0 .. 40) behind it; the difference by asked().");
        s.tells(() -> with(SIX), "0: 15 by 0", 0, 15, x -> x.hold(0, 0));
        s.tells(() -> with(SIX), "40: 18 by 5 and 6", 5, 22, x -> x.hold(0, 40));
        s.tells(() -> with(SIX), "just 16 by 1 and 2", 1, 0, x -> x.hold(0, 16));
        s.tells(() -> with(SIX), "just 17 by 3 and 4", 3, 0, x -> x.hold(0, 17));
        s.tells(() -> with("d0q104"), "quick at 4: 12 by 1, 13 by 2, 3", 2, 0, x -> x.hold(0, 13));
        s.tells(() -> with("d0q104"), "who does not strike by 0", 1, 12, x -> x.hold(0, 0));
        s.tells(() -> with("d0b120"), "who breaks from 3 on: 19 by 0, 20 by 1", 1, 20, x -> x.hold(0, 40));
        s.tells(() -> with("d0g919"), "great at 19: 24 by 0 to 3", 0, 0, x -> x.hold(0, 24));
        s.tells(() -> with("d0g919"), "great at 19: 25 by 4 to 6", 4, 1, x -> x.hold(0, 26));
        s.aside(Scenes::rich, "nothing changes", 1, x -> x.hold(0, 16));

        s.says(26, "NONE: by none it does.");
        s.no(() -> with("d0h102"), "heavy at 2: 4 at most", NONE, x -> x.hold(0, 10));
        s.is(() -> with("d0h103"), "heavy at 3: 5 by 6", 6, x -> x.hold(0, 10));

        refusals(s, 26, (x, i) -> x.hold(i, 10));
        for (int tenths : new int[] {-1, 41, MIN, MAX}) {
            bad(s, "tenths " + tenths, (x, i) -> x.hold(i, tenths));
        }
    }

    private static void drops27(Sentences s) {
        s.says(27, "In how many STROKES without a PULL (PULLS of 0) it STRIKES no more (0: it does not now, by its HEIGHT).");
        for (int height = 0; height <= 20; height++) {
            int h = height;
            s.is(() -> with(0, BELL, 1, h), "plain at " + h, Math.max(0, h - 4), x -> x.drops(0));
            s.is(() -> with(0, GREAT, 1, h), "great at " + h, Math.max(0, h - 4), x -> x.drops(0));
        }
        s.is(() -> with("d0q104"), "quick at 4", 0, x -> x.drops(0));
        s.aside(Scenes::rich, "nothing changes", 8, x -> x.drops(0));

        s.says(27, "NONE: not in 30.");
        s.no(() -> with("d0q105"), "quick at 5", NONE, x -> x.drops(0));
        s.no(() -> with("d0q120"), "quick at 20", NONE, x -> x.drops(0));
        s.no(() -> with("d0t105"), "treble at 5", NONE, x -> x.drops(0));

        refusals(s, 27, (x, i) -> x.drops(i));
    }

    private static void back28(Sentences s) {
        s.says(28, "The fewest STROKES behind which it STRIKES (HEIGHT 5 or more; 0: now), its STAY whole.");
        s.is(() -> with("d0b105"), "at 5", 0, x -> x.back(0));
        s.is(() -> with("d0b120"), "at 20", 0, x -> x.back(0));
        s.is(() -> with("d0b104"), "at 4", 1, x -> x.back(0));
        s.is(() -> with("d0b100"), "at 0: 5 by 6", 1, x -> x.back(0));
        s.is(() -> with("d0q100"), "quick at 0", 1, x -> x.back(0));
        s.is(() -> with("d0h103"), "heavy at 3", 1, x -> x.back(0));
        s.is(() -> with("d0h102"), "heavy at 2", 2, x -> x.back(0));
        s.is(() -> with("d0h100"), "heavy at 0: 2, 4, 6", 3, x -> x.back(0));
        s.is(() -> with("d0g101"), "great at 1: 3, 5", 2, x -> x.back(0));
        s.aside(Scenes::rich, "nothing changes", 0, x -> x.back(0));

        s.says(28, "NONE: not by 30.");
        for (int kind = 0; kind < 6; kind++) {
            int k = kind;
            s.is(() -> with(0, k, 9, 0), "every one can, kind " + k, k == HEAVY || k == GREAT ? 3 : 1, x -> x.back(0));
        }

        refusals(s, 28, (x, i) -> x.back(i));
    }
}
