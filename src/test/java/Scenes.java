/** Objects made ready for a test, and what is seen of them. */
class Scenes {
    static final int BAD = -1, FULL = -2, FINDING = -3, STATE = -4, NONE = -9;
    static final int NOTHING = 1, BEYOND = 2, UNLIKE = 3, NOUGHT = 4, SIZE = 5;
    static final int BELL = 0, HEAVY = 1, QUICK = 2, BLIND = 3, GREAT = 4, TREBLE = 5;
    static final int KIND = 0, WEIGHT = 1, HEIGHT = 2, OVER = 3, STANDS = 4, STROKES = 5;
    static final int BELLS = 0, DAMP = 1, DEEDS = 2, OVERS = 3, STANDING = 4, HEAVIES = 5, ROWS = 6, TEXTS = 7, KEPT = 8;
    static final int MIN = Integer.MIN_VALUE, MAX = Integer.MAX_VALUE;
    static final String LETTERS = "bhqngt";
    static final String SIX = "d1 b412 h918 q120 n305 g816 t219";

    Scenes() {
    }

    static void write(BellBalance x, int t, String s) {
        x.text(t, s.length());
        for (int i = 0; i < s.length(); i++) {
            x.put(t, i, s.charAt(i));
        }
    }

    static void lay(BellBalance x, int r, int... v) {
        x.row(r, v.length);
        for (int i = 0; i < v.length; i++) {
            x.lay(r, i, v[i]);
        }
    }

    static BellBalance with(String tower) {
        BellBalance x = new BellBalance();
        write(x, 0, tower);
        x.tower(0);
        return x;
    }

    /* A tower, and a row 0. */
    static BellBalance with(String tower, int... row) {
        BellBalance x = with(tower);
        lay(x, 0, row);
        return x;
    }

    static String tower(int damp, int kind, int weight, int height) {
        return "d" + damp + LETTERS.charAt(kind) + weight + height / 10 + height % 10;
    }

    /* One bell alone. */
    static BellBalance with(int damp, int kind, int weight, int height) {
        return with(tower(damp, kind, weight, height));
    }

    static int bell(BellBalance x, int i, int what) {
        x.bell(i, what);
        return x.asked();
    }

    static int fault(String s) {
        BellBalance x = new BellBalance();
        write(x, 0, s);
        return x.fault(0);
    }

    /*
     * Something of all there is: row 0 has pulls for all, row 1 three ints, row 2 none, 3 to 5 are missing; text 0
     * is the tower's, 1 has a fault, 2 is empty, 3 is missing; bell 2 is over; towers are kept in 0 and 2. Every
     * finding was answered once.
     */
    static BellBalance rich() {
        BellBalance x = with(SIX, 1, 2, 0, 1, 3, 0);
        lay(x, 1, 5, -6, 7);
        x.row(2, 0);
        write(x, 1, "d2 h704 g1");
        x.text(2, 0);
        x.stroke(2, 6);
        x.keep(0);
        x.round(0);
        x.keep(2);
        x.row(5, -1);
        x.mean(2);
        x.mark(0, HEAVY);
        x.at(1, 3);
        x.odds(0, 3, 2, 5);
        x.tear(5);
        x.at(1, 1);
        return x;
    }

    /* 40 deeds; bell 0 swings on at 5, bell 1 is over; row 0 has pulls for both. */
    static BellBalance full() {
        BellBalance x = with("d0 q105 q120", 0, 0);
        x.stroke(1, 6);
        for (int k = 1; k < 40; k++) {
            x.stroke(0, 0);
        }
        return x;
    }

    /* The height behind a stroke by the words of the terms, without the class; 22 or above: broken. */
    static int then(int kind, int height, int pull) {
        int more = kind == HEAVY || kind == GREAT ? pull / 2 : pull;
        int less = kind == QUICK || kind == TREBLE ? 0 : 1;
        int then = Math.max(0, height + more - less);
        return then == 21 ? 20 : then;
    }

    /* How many rows of n pulls end at 20, from the last pull back to the first. */
    static long waysOf(int kind, int height, int n) {
        long[] ways = new long[21];
        ways[20] = 1;
        for (int k = 0; k < n; k++) {
            long[] ahead = new long[21];
            for (int from = 0; from <= 20; from++) {
                for (int pull = 0; pull <= 6; pull++) {
                    int to = then(kind, from, pull);
                    ahead[from] += to <= 20 ? ways[to] : 0;
                }
            }
            ways = ahead;
        }
        return ways[height];
    }
}
