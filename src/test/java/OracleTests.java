import java.util.Random;

/** Random runs of calls, on the class and on the oracle; all that is told is compared behind every call. */
public final class OracleTests {
    private static final Due DUE = new Due("OracleTests");
    /* An object is used for 512 calls; the dearest step makes some 100. */
    private static final int MOST_CALLS = 400;
    private static final int[] ODD = {Integer.MIN_VALUE, -1000, -9, -1, 41, 61, 100, 1 << 30, Integer.MAX_VALUE};

    private final Random random;
    private final BellBalance x = new BellBalance();
    private final Oracle o = new Oracle();
    private final StringBuilder story = new StringBuilder();
    private int bells;
    private int calls;
    private boolean wrong = false;

    private OracleTests(long seed) {
        random = new Random(seed);
    }

    public static void main(String[] args) {
        for (int seed = 1; seed <= 5000; seed++) {
            new OracleTests(seed).run(seed % 40 == 0 ? 6 : 4);
        }
        for (int seed = 1; seed <= 4000; seed++) {
            new OracleTests(-seed).faults();
        }
        DUE.end();
    }

    private void run(int mostBells) {
        if (random.nextInt(12) != 0) {
            setUp(1 + random.nextInt(mostBells));
        }
        while (calls < MOST_CALLS && !wrong) {
            call();
            same();
        }
        for (int f = 0; f <= 6; f++) {
            due("findings " + f, x.findings(f), o.findings(f));
        }
    }

    private void setUp(int n) {
        bells = n;
        StringBuilder s = new StringBuilder();
        s.append(" ".repeat(random.nextInt(3))).append('d').append(random.nextInt(4));
        int about = random.nextInt(21);
        for (int i = 0; i < n; i++) {
            int height = random.nextBoolean() ? random.nextInt(21) : Math.max(0, Math.min(20, about + random.nextInt(7) - 3));
            s.append(" ".repeat(random.nextInt(3))).append("bhqngt".charAt(random.nextInt(6))).append(1 + random.nextInt(9));
            s.append((char) ('0' + height / 10)).append((char) ('0' + height % 10));
        }
        s.append(" ".repeat(random.nextInt(3)));
        write(random.nextInt(4), s.toString());
    }

    private void write(int t, String s) {
        due("text " + t + " '" + s + "'", x.text(t, s.length()), o.text(t, s.length()));
        for (int i = 0; i < s.length(); i++) {
            due("put", x.put(t, i, s.charAt(i)), o.put(t, i, s.charAt(i)));
        }
        due("fault", x.fault(t), o.fault(t));
        due("tower", x.tower(t), o.tower(t));
        same();
    }

    /* Texts near to good ones, with a sign changed, cut or put in. */
    private void faults() {
        StringBuilder s = new StringBuilder(" ".repeat(random.nextInt(2))).append('d').append(random.nextInt(4));
        int n = random.nextInt(9);
        for (int i = 0; i < n; i++) {
            int height = random.nextInt(21);
            s.append(" ".repeat(random.nextInt(2))).append("bhqngt".charAt(random.nextInt(6))).append(1 + random.nextInt(9));
            s.append(height / 10).append(height % 10);
        }
        int changes = random.nextInt(3);
        for (int k = 0; k < changes; k++) {
            char sign = " dbhqngtx0123456789/:\u00e9\0".charAt(random.nextInt(23));
            int place = random.nextInt(s.length() + 1);
            int how = random.nextInt(3);
            if (how == 0 || place == s.length()) {
                s.insert(place, sign);
            } else if (how == 1) {
                s.setCharAt(place, sign);
            } else {
                s.setLength(place);
            }
        }
        write(random.nextInt(4), s.length() > 60 ? s.substring(0, 60) : s.toString());
    }

    private void due(String what, long got, long want) {
        calls++;
        story.append(what).append(" = ").append(want).append('\n');
        DUE.is(what, got, want);
        if (got != want && !wrong) {
            wrong = true;
            System.out.println("the run:\n" + story);
        }
    }

    private void same() {
        due("asked", x.asked(), o.asked());
        due("upper", x.upper(), o.upper());
        due("lower", x.lower(), o.lower());
        due("finding", x.finding(), o.finding());
        due("digest", x.digest(), o.digest());
    }

    private int some(int least, int most) {
        if (random.nextInt(40) == 0) {
            return random.nextBoolean() ? ODD[random.nextInt(ODD.length)] : random.nextBoolean() ? least - 1 : most + 1;
        }
        return least + random.nextInt(most - least + 1);
    }

    private int aBell() {
        return some(0, Math.max(0, bells - 1));
    }

    private int aRow() {
        return some(0, 5);
    }

    /* A row that suits what is asked of it, mostly. */
    private int laid(int how) {
        int r = random.nextInt(6);
        int n = how == 0 ? bells : how == 1 ? 2 * random.nextInt(6) : how == 2 ? random.nextInt(16) : x.count(0) - x.count(3);
        if (random.nextInt(15) == 0) {
            n = random.nextInt(9);
        }
        due("row " + r + " " + n, x.row(r, n), o.row(r, n));
        int hardest = 1 + random.nextInt(7);
        int next = 0;
        int[] order = mixed();
        for (int k = 0; k < n; k++) {
            int v = random.nextInt(hardest);
            if (how == 1 && k % 2 == 1) {
                v = random.nextInt(3) == 0 ? -9 : 9 + random.nextInt(14);
            }
            if (how == 3) {
                v = next < order.length ? order[next++] : 0;
            }
            if (random.nextInt(60) == 0) {
                v = random.nextBoolean() ? 7 : -1;
            }
            due("lay " + r + " " + k + " " + v, x.lay(r, k, v), o.lay(r, k, v));
        }
        return random.nextInt(40) == 0 ? aRow() : r;
    }

    private int[] mixed() {
        int[] order = new int[x.count(0) - x.count(3)];
        int n = 0;
        for (int i = 0; i < x.count(0); i++) {
            x.bell(i, 3);
            o.bell(i, 3);
            calls += 3;
            if (x.asked() == 0) {
                int place = random.nextInt(n + 1);
                order[n++] = order[place];
                order[place] = i;
            }
        }
        return order;
    }

    /* What was truly heard of the bell (or of a changed one), so that it fits at times. */
    private int toldOf(int i) {
        int r = random.nextInt(6);
        int n = random.nextInt(5);
        due("row " + r + " " + 2 * n, x.row(r, 2 * n), o.row(r, 2 * n));
        int deeds = x.count(2);
        int was = x.damp(random.nextInt(4));
        for (int k = 0; k < n; k++) {
            int pull = random.nextInt(7);
            int when = x.strikes(i, pull);
            x.stroke(i, pull);
            calls += 2;
            due("lay", x.lay(r, 2 * k, pull), o.lay(r, 2 * k, pull));
            int told = when == -4 || when < 0 ? -9 : when;
            due("lay", x.lay(r, 2 * k + 1, told), o.lay(r, 2 * k + 1, told));
        }
        x.undo(deeds);
        if (random.nextBoolean()) {
            x.damp(was);
        } else {
            o.damp(x.count(1));
        }
        return r;
    }

    private void call() {
        int a = aBell();
        int r = aRow();
        int i = random.nextInt(6);
        switch (random.nextInt(44)) {
            case 0: { int n = some(0, 40); due("row " + r + " " + n, x.row(r, n), o.row(r, n)); break; }
            case 1: { int p = some(0, 6), v = random.nextInt(); due("lay " + r + " " + p + " " + v, x.lay(r, p, v), o.lay(r, p, v)); break; }
            case 2: { int p = some(0, 10); due("at " + r + " " + p, x.at(r, p), o.at(r, p)); break; }
            case 3: due("tear " + r, x.tear(r), o.tear(r)); break;
            case 4: case 5: { int p = some(0, 6), to = random.nextBoolean() ? r : aRow(), j = some(0, 6), n = some(0, 5); due("copy " + r + " " + p + " " + to + " " + j + " " + n, x.copy(r, p, to, j, n), o.copy(r, p, to, j, n)); break; }
            case 6: due("mean " + r, x.mean(r), o.mean(r)); break;
            case 7: { int t = some(0, 3), n = some(0, 60); due("text " + t + " " + n, x.text(t, n), o.text(t, n)); break; }
            case 8: { int t = some(0, 3), p = some(0, 20), v = random.nextInt(600) - 300; due("put " + t + " " + p + " " + v, x.put(t, p, v), o.put(t, p, v)); break; }
            case 9: { int t = some(0, 3); due("fault " + t, x.fault(t), o.fault(t)); break; }
            case 10: { int t = some(0, 3); due("tower " + t, x.tower(t), o.tower(t)); bells = x.count(0); break; }
            case 11: { int w = some(0, 5); due("bell " + a + " " + w, x.bell(a, w), o.bell(a, w)); break; }
            case 12: case 13: { for (int k = 0; k <= 6; k++) due("mark " + a + " " + k, x.mark(a, k), o.mark(a, k)); break; }
            case 14: { int v = some(0, 3); due("damp " + v, x.damp(v), o.damp(v)); break; }
            case 15: case 16: case 17: { int p = some(0, 6); due("stroke " + a + " " + p, x.stroke(a, p), o.stroke(a, p)); break; }
            case 18: case 19: { int rr = laid(0); due("round " + rr, x.round(rr), o.round(rr)); break; }
            case 20: { for (int k = -1; k <= 6; k++) due("mend " + k, x.mend(k), o.mend(k)); break; }
            case 21: { int n = random.nextInt(3) > 0 ? x.count(2) - random.nextInt(4) : some(0, 40); due("undo " + n, x.undo(n), o.undo(n)); break; }
            case 22: { int k = some(0, 2); due("keep " + k, x.keep(k), o.keep(k)); break; }
            case 23: { int k = some(0, 2); due("on " + k, x.on(k), o.on(k)); break; }
            case 24: { int p = some(0, 6); due("strikes " + a + " " + p, x.strikes(a, p), o.strikes(a, p)); break; }
            case 25: due("stands " + a, x.stands(a), o.stands(a)); break;
            case 26: due("raise " + a + " " + r, x.raise(a, r), o.raise(a, r)); break;
            case 27: { int n = some(0, 12); due("ways " + a + " " + n, x.ways(a, n), o.ways(a, n)); break; }
            case 28: { int n = some(0, 12), h = some(0, 20); due("arms " + a + " " + n + " " + h + " " + r, x.arms(a, n, h, r), o.arms(a, n, h, r)); break; }
            case 29: { int t = some(0, 40); due("hold " + a + " " + t, x.hold(a, t), o.hold(a, t)); break; }
            case 30: due("drops " + a, x.drops(a), o.drops(a)); break;
            case 31: due("back " + a, x.back(a), o.back(a)); break;
            case 32: { int rr = laid(0); due("error " + rr, x.error(rr), o.error(rr)); break; }
            case 33: { int rr = laid(0), p = some(0, 5); due("heard " + rr + " " + p, x.heard(rr, p), o.heard(rr, p)); break; }
            case 34: due("even " + r, x.even(r), o.even(r)); break;
            case 35: { int rr = laid(3), to = random.nextInt(9) == 0 ? rr : aRow(); due("change " + rr + " " + to, x.change(rr, to), o.change(rr, to)); break; }
            case 36: due("orders", x.orders(), o.orders()); break;
            case 37: { int rr = laid(0); due("late " + rr, x.late(rr), o.late(rr)); break; }
            case 38: { int n = some(0, 3); due("game " + a + " " + n, x.game(a, n), o.game(a, n)); due("first " + a + " " + n, x.first(a, n), o.first(a, n)); break; }
            case 39: case 40: { int rr = random.nextInt(4) == 0 ? laid(1) : toldOf(a); due("kinds " + a, x.kinds(a, rr), o.kinds(a, rr)); due("damps " + a, x.damps(a, rr), o.damps(a, rr)); due("heights " + a, x.heights(a, rr), o.heights(a, rr)); break; }
            case 41: { int rr = laid(2); due("broke " + a + " " + rr, x.broke(a, rr), o.broke(a, rr)); break; }
            case 42: { int p = some(0, 6), n = some(0, 8), s = some(0, 12); due("odds " + a + " " + p + " " + n + " " + s, x.odds(a, p, n, s), o.odds(a, p, n, s)); due("asked", x.upper(), o.upper()); due("mid " + a, x.mid(a, p, n, s), o.mid(a, p, n, s)); break; }
            default: { int n = some(1, 20), seed = random.nextInt(9) == 0 ? 2147483645 + random.nextInt(3) : some(1, 100000); due("lots " + n + " " + seed, x.lots(n, seed), o.lots(n, seed)); break; }
        }
        if (i == 0) {
            for (int k = -1; k <= 9; k++) {
                due("count " + k, x.count(k), o.count(k));
            }
        }
    }
}
