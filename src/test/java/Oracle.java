import java.math.BigInteger;
import java.util.ArrayList;
import java.util.HashMap;
import java.util.HashSet;
import java.util.List;
import java.util.Map;
import java.util.Set;
import java.util.regex.Matcher;
import java.util.regex.Pattern;

/** The document's face once more, slow and plain: rows of pulls are tried one by one, towers are copied whole. */
final class Oracle {
    private static final int BAD = -1, FULL = -2, FINDING = -3, STATE = -4, NONE = -9;
    private static final Pattern WHOLE = Pattern.compile(" *d[0-3](?: *[bhqngt][1-9](?:[01][0-9]|20)){1,6} *");
    private static final String LETTERS = "bhqngt";

    /** A bell never changes; a stroke gives another one. */
    record Bell(int kind, int weight, int height, boolean over, int strokes) {
        boolean heavy() {
            return kind == 1 || kind == 4;
        }

        boolean quick() {
            return kind == 2 || kind == 5;
        }

        Bell pulled(int pull) {
            if (over) {
                return this;
            }
            int h = height + (heavy() ? pull / 2 : pull) - (quick() ? 0 : 1);
            if (h >= 22) {
                return new Bell(kind, weight, 0, true, strokes + 1);
            }
            return new Bell(kind, weight, h < 0 ? 0 : h == 21 ? 20 : h, false, strokes + 1);
        }

        Integer struck(int damp) {
            if (over || height < 5) {
                return null;
            }
            int more = kind == 3 ? 1 : kind == 4 ? 2 : kind == 5 ? -1 : 0;
            return 10 + height / 2 + weight / 3 - damp + more;
        }

        Bell at(int h) {
            return new Bell(kind, weight, h, false, 0);
        }

        Bell of(int k) {
            return new Bell(k, weight, height, over, strokes);
        }
    }

    private List<List<Bell>> past = new ArrayList<>();
    private int damp = 0;
    private final List<List<List<Bell>>> kept = new ArrayList<>();
    private final int[] keptDamp = new int[3];
    private final int[][] rows = new int[6][];
    private final byte[][] texts = new byte[4][];
    private int asked = 0;
    private long upper = 0;
    private long lower = 1;
    private int finding = 0;
    private final int[] findings = new int[6];

    Oracle() {
        past.add(new ArrayList<>());
        for (int k = 0; k < 3; k++) {
            kept.add(null);
        }
    }

    private List<Bell> bells() {
        return past.get(past.size() - 1);
    }

    private int deeds() {
        return past.size() - 1;
    }

    private int find(int f) {
        finding = f;
        findings[f]++;
        return FINDING;
    }

    private static boolean in(int v, int least, int most) {
        return least <= v && v <= most;
    }

    private boolean isBell(int i) {
        return in(i, 0, bells().size() - 1);
    }

    int row(int r, int n) {
        if (!in(r, 0, 5) || n > 40) return BAD;
        if (n < 0) return find(5);
        rows[r] = new int[n];
        return n;
    }

    int lay(int r, int i, int v) {
        int no = at(r, i);
        if (no == 1) rows[r][i] = v;
        return no;
    }

    int at(int r, int i) {
        if (!in(r, 0, 5)) return BAD;
        if (rows[r] == null) return find(1);
        if (!in(i, 0, rows[r].length - 1)) return find(2);
        asked = rows[r][i];
        return 1;
    }

    int tear(int r) {
        if (!in(r, 0, 5)) return BAD;
        if (rows[r] == null) return find(1);
        rows[r] = null;
        return 1;
    }

    int copy(int r, int i, int to, int j, int n) {
        if (!in(r, 0, 5) || !in(to, 0, 5)) return BAD;
        if (n < 0) return find(5);
        if (rows[r] == null || rows[to] == null) return find(1);
        if (i < 0 || j < 0 || (long) i + n > rows[r].length || (long) j + n > rows[to].length) return find(2);
        int[] taken = rows[r].clone();
        for (int k = 0; k < n; k++) rows[to][j + k] = taken[i + k];
        return 1;
    }

    int mean(int r) {
        if (!in(r, 0, 5)) return BAD;
        if (rows[r] == null) return find(1);
        if (rows[r].length == 0) return find(4);
        BigInteger sum = BigInteger.ZERO;
        for (int v : rows[r]) sum = sum.add(BigInteger.valueOf(v));
        asked = sum.divide(BigInteger.valueOf(rows[r].length)).intValueExact();
        return 1;
    }

    int text(int t, int n) {
        if (!in(t, 0, 3) || n > 60) return BAD;
        if (n < 0) return find(5);
        texts[t] = " ".repeat(n).getBytes();
        return n;
    }

    int put(int t, int i, int v) {
        if (!in(t, 0, 3)) return BAD;
        if (texts[t] == null) return find(1);
        if (!in(i, 0, texts[t].length - 1)) return find(2);
        int was = texts[t][i];
        texts[t][i] = (byte) v;
        return was + 1000;
    }

    private String said(int t) {
        StringBuilder s = new StringBuilder();
        for (byte b : texts[t]) s.append((char) (b & 255));
        return s.toString();
    }

    /* The first place at which no tower begins as the text does up to there. */
    int fault(int t) {
        if (!in(t, 0, 3)) return BAD;
        if (texts[t] == null) return find(1);
        String s = said(t);
        for (int k = 1; k <= s.length(); k++) {
            Matcher m = WHOLE.matcher(s.substring(0, k));
            if (!m.matches() && !m.hitEnd()) return k - 1;
        }
        return WHOLE.matcher(s).matches() ? NONE : s.length();
    }

    int tower(int t) {
        int f = fault(t);
        if (f == BAD || f == FINDING) return f;
        if (f != NONE) return STATE;
        String s = said(t).replace(" ", "");
        damp = s.charAt(1) - '0';
        List<Bell> all = new ArrayList<>();
        for (int k = 2; k < s.length(); k += 4) {
            all.add(new Bell(LETTERS.indexOf(s.charAt(k)), s.charAt(k + 1) - '0', Integer.parseInt(s.substring(k + 2, k + 4)), false, 0));
        }
        past = new ArrayList<>();
        past.add(all);
        for (int k = 0; k < 3; k++) kept.set(k, null);
        return all.size();
    }

    private int told(Bell b, int what) {
        int[] all = {b.kind, b.weight, b.height, b.over ? 1 : 0, !b.over && b.height == 20 ? 1 : 0, b.strokes};
        return all[what];
    }

    int bell(int i, int what) {
        if (!isBell(i) || !in(what, 0, 5)) return BAD;
        asked = told(bells().get(i), what);
        return 1;
    }

    int mark(int i, int kind) {
        if (!isBell(i) || !in(kind, 1, 5)) return BAD;
        Bell b = bells().get(i);
        boolean is = b.kind == kind || kind == 1 && b.heavy() || kind == 2 && b.quick();
        if (!is) return find(3);
        b = b.at(b.height);
        if (kind == 1) {
            int most = 0;
            for (int p = 0; p <= 6; p++) if (!b.pulled(p).over) most = p;
            return most;
        }
        if (kind == 2) {
            int n = 0;
            for (; b.height != 20; n++) b = b.pulled(1);
            return n;
        }
        Integer own = b.pulled(1).struck(damp);
        if (kind == 3) return own == null ? NONE : own;
        if (kind == 5 && own == null) return NONE;
        int others = 0;
        for (int k = 0; k < bells().size(); k++) {
            if (k == i) continue;
            Bell o = bells().get(k);
            if (kind == 4) {
                others += o.weight >= b.weight ? 1 : 0;
            } else {
                Integer when = o.at(o.height).pulled(1).struck(damp);
                others += when != null && when < own ? 1 : 0;
            }
        }
        return others;
    }

    int damp(int v) {
        if (!in(v, 0, 3)) return BAD;
        if (bells().isEmpty()) return STATE;
        int was = damp;
        damp = v;
        return was;
    }

    private void did(int i, Bell b) {
        List<Bell> next = new ArrayList<>(bells());
        next.set(i, b);
        past.add(next);
    }

    int stroke(int i, int pull) {
        if (!isBell(i) || !in(pull, 0, 6)) return BAD;
        if (bells().get(i).over) return STATE;
        if (deeds() >= 40) return FULL;
        did(i, bells().get(i).pulled(pull));
        return bells().get(i).height;
    }

    private int roundRefused(int r) {
        if (!in(r, 0, 5)) return BAD;
        if (bells().isEmpty()) return STATE;
        if (rows[r] == null) return find(1);
        if (rows[r].length != bells().size()) return find(5);
        for (int v : rows[r]) if (!in(v, 0, 6)) return find(3);
        return 0;
    }

    private List<Bell> rung(int[] pulls) {
        List<Bell> next = new ArrayList<>();
        for (int i = 0; i < pulls.length; i++) next.add(bells().get(i).pulled(pulls[i]));
        return next;
    }

    /* Pairs of who and when. */
    private List<int[]> hearing(List<Bell> behind) {
        List<int[]> all = new ArrayList<>();
        for (int i = 0; i < behind.size(); i++) {
            Integer when = behind.get(i).struck(damp);
            if (when != null) all.add(new int[] {i, when + 2 * i});
        }
        all.sort((a, b) -> a[1] != b[1] ? Integer.compare(a[1], b[1]) : Integer.compare(a[0], b[0]));
        return all;
    }

    private static int bits(List<int[]> all) {
        int bits = 0;
        for (int[] one : all) bits += 1 << one[0];
        return bits;
    }

    private static int errorOf(List<int[]> all) {
        int sum = 0;
        for (int k = 1; k < all.size(); k++) sum += Math.abs(all.get(k)[1] - all.get(k - 1)[1] - 2);
        return sum;
    }

    int round(int r) {
        int no = roundRefused(r);
        if (no != 0) return no;
        if (deeds() >= 40) return FULL;
        past.add(rung(rows[r]));
        return bits(hearing(bells()));
    }

    int mend(int i) {
        if (!isBell(i)) return BAD;
        Bell b = bells().get(i);
        if (!b.over) return STATE;
        if (deeds() >= 40) return FULL;
        did(i, new Bell(b.kind, b.weight, 0, false, b.strokes));
        return 1;
    }

    int undo(int n) {
        if (!in(n, 0, deeds())) return BAD;
        int undone = 0;
        for (; deeds() > n; undone++) past.remove(past.size() - 1);
        return undone;
    }

    int keep(int k) {
        if (!in(k, 0, 2)) return BAD;
        if (bells().isEmpty()) return STATE;
        kept.set(k, new ArrayList<>(past));
        keptDamp[k] = damp;
        return deeds();
    }

    int on(int k) {
        if (!in(k, 0, 2)) return BAD;
        if (kept.get(k) == null) return find(1);
        past = new ArrayList<>(kept.get(k));
        damp = keptDamp[k];
        return deeds();
    }

    private int bellRefused(int i, boolean othersFine) {
        if (!othersFine || !isBell(i)) return BAD;
        return bells().get(i).over ? STATE : 0;
    }

    int strikes(int i, int pull) {
        int no = bellRefused(i, in(pull, 0, 6));
        if (no != 0) return no;
        Integer when = bells().get(i).pulled(pull).struck(damp);
        return when == null ? NONE : when;
    }

    int stands(int i) {
        int no = bellRefused(i, true);
        if (no != 0) return no;
        int stand = 0;
        int breaks = 0;
        for (int p = 0; p <= 6; p++) {
            Bell b = bells().get(i).pulled(p);
            if (b.over) breaks += 1 << p;
            else if (b.height == 20) stand += 1 << p;
        }
        asked = breaks;
        return stand;
    }

    /* The first row of just n pulls to a height that is good; heights from which it was in vain are kept by the row's length. */
    private static boolean firstRow(Bell b, int n, int least, List<Integer> pulls, Set<Integer> vain) {
        if (n == 0) return b.height >= least;
        if (vain.contains(n * 100 + b.height)) return false;
        for (int p = 0; p <= 6; p++) {
            Bell then = b.pulled(p);
            if (then.over) continue;
            pulls.add(p);
            if (firstRow(then, n - 1, least, pulls, vain)) return true;
            pulls.remove(pulls.size() - 1);
        }
        vain.add(n * 100 + b.height);
        return false;
    }

    private static int fewest(Bell b, int least, List<Integer> pulls) {
        for (int n = 0; n <= 30; n++) if (firstRow(b, n, least, pulls, new HashSet<>())) return n;
        return NONE;
    }

    private void comes(int r, List<Integer> pulls) {
        rows[r] = new int[pulls.size()];
        for (int k = 0; k < pulls.size(); k++) rows[r][k] = pulls.get(k);
    }

    int raise(int i, int r) {
        int no = bellRefused(i, in(r, 0, 5));
        if (no != 0) return no;
        List<Integer> pulls = new ArrayList<>();
        int n = fewest(bells().get(i), 20, pulls);
        if (n != NONE) comes(r, pulls);
        return n;
    }

    private static long waysFrom(Bell b, int n, Map<Integer, Long> known) {
        if (b.over) return 0;
        if (n == 0) return b.height == 20 ? 1 : 0;
        Long was = known.get(n * 100 + b.height);
        if (was != null) return was;
        long sum = 0;
        for (int p = 0; p <= 6; p++) sum += waysFrom(b.pulled(p), n - 1, known);
        known.put(n * 100 + b.height, sum);
        return sum;
    }

    int ways(int i, int n) {
        int no = bellRefused(i, in(n, 0, 12));
        if (no != 0) return no;
        upper = waysFrom(bells().get(i), n, new HashMap<>());
        lower = 1;
        return 1;
    }

    /* The first row of n pulls of just such a sum to just such a height. */
    private static boolean armsRow(Bell b, int n, int sum, int goal, List<Integer> pulls, Set<Integer> vain) {
        if (b.over || sum < 0 || sum > 6 * n) return false;
        if (n == 0) return b.height == goal;
        int state = (n * 100 + sum) * 100 + b.height;
        if (vain.contains(state)) return false;
        for (int p = 0; p <= 6; p++) {
            pulls.add(p);
            if (armsRow(b.pulled(p), n - 1, sum - p, goal, pulls, vain)) return true;
            pulls.remove(pulls.size() - 1);
        }
        vain.add(state);
        return false;
    }

    int arms(int i, int n, int height, int r) {
        int no = bellRefused(i, in(n, 0, 12) && in(height, 0, 20) && in(r, 0, 5));
        if (no != 0) return no;
        for (int sum = 0; sum <= 72; sum++) {
            List<Integer> pulls = new ArrayList<>();
            if (armsRow(bells().get(i), n, sum, height, pulls, new HashSet<>())) {
                comes(r, pulls);
                return sum;
            }
        }
        return NONE;
    }

    int hold(int i, int tenths) {
        int no = bellRefused(i, in(tenths, 0, 40));
        if (no != 0) return no;
        for (int d = 0; d <= 100; d++) {
            for (int p = 0; p <= 6; p++) {
                Integer when = bells().get(i).pulled(p).struck(damp);
                if (when != null && Math.abs(when - tenths) == d) {
                    asked = d;
                    return p;
                }
            }
        }
        return NONE;
    }

    int drops(int i) {
        int no = bellRefused(i, true);
        if (no != 0) return no;
        Bell b = bells().get(i);
        for (int n = 0; n <= 30; n++) {
            if (b.struck(damp) == null) return n;
            b = b.pulled(0);
        }
        return NONE;
    }

    int back(int i) {
        int no = bellRefused(i, true);
        return no != 0 ? no : fewest(bells().get(i), 5, new ArrayList<>());
    }

    int error(int r) {
        int no = roundRefused(r);
        if (no != 0) return no;
        List<int[]> all = hearing(rung(rows[r]));
        asked = bits(all);
        return errorOf(all);
    }

    int heard(int r, int place) {
        if (!in(place, 0, 5)) return BAD;
        int no = roundRefused(r);
        if (no != 0) return no;
        List<int[]> all = hearing(rung(rows[r]));
        if (place >= all.size()) return NONE;
        asked = all.get(place)[1];
        return all.get(place)[0];
    }

    private int ringing() {
        int n = 0;
        for (Bell b : bells()) n += b.over ? 0 : 1;
        return n;
    }

    /* Rows of pulls by which all that are not over are heard and none comes to be, in their order. */
    private List<int[]> goodRows() {
        List<int[]> good = new ArrayList<>();
        goodRows(new int[bells().size()], 0, good);
        return good;
    }

    private void goodRows(int[] pulls, int i, List<int[]> good) {
        if (i == pulls.length) {
            good.add(pulls.clone());
            return;
        }
        Bell b = bells().get(i);
        for (int p = 0; p <= (b.over ? 0 : 6); p++) {
            if (!b.over && b.pulled(p).struck(damp) == null) continue;
            pulls[i] = p;
            goodRows(pulls, i + 1, good);
        }
    }

    int even(int r) {
        if (!in(r, 0, 5)) return BAD;
        if (bells().isEmpty()) return STATE;
        int least = NONE;
        for (int[] pulls : goodRows()) {
            int e = errorOf(hearing(rung(pulls)));
            if (least == NONE || e < least) {
                least = e;
                rows[r] = pulls;
            }
        }
        return least;
    }

    private static String order(List<int[]> all) {
        StringBuilder s = new StringBuilder();
        for (int[] one : all) s.append(one[0]);
        return s.toString();
    }

    int change(int r, int to) {
        if (!in(r, 0, 5) || !in(to, 0, 5)) return BAD;
        if (bells().isEmpty()) return STATE;
        if (rows[r] == null) return find(1);
        if (rows[r].length != ringing()) return find(5);
        StringBuilder want = new StringBuilder();
        for (int v : rows[r]) {
            if (!isBell(v) || bells().get(v).over || want.indexOf(String.valueOf(v)) >= 0) return find(3);
            want.append(v);
        }
        for (int[] pulls : goodRows()) {
            List<int[]> all = hearing(rung(pulls));
            if (order(all).contentEquals(want)) {
                rows[to] = pulls;
                return errorOf(all);
            }
        }
        return NONE;
    }

    int orders() {
        if (bells().isEmpty()) return STATE;
        Set<String> unlike = new HashSet<>();
        for (int[] pulls : goodRows()) unlike.add(order(hearing(rung(pulls))));
        return unlike.size();
    }

    int late(int r) {
        int no = roundRefused(r);
        if (no != 0) return no;
        List<int[]> all = hearing(rung(rows[r]));
        if (all.size() < 2) return NONE;
        int most = 1;
        for (int k = 2; k < all.size(); k++) {
            if (all.get(k)[1] - all.get(k - 1)[1] > all.get(most)[1] - all.get(most - 1)[1]) most = k;
        }
        asked = all.get(most)[1] - all.get(most - 1)[1];
        return all.get(most)[0];
    }

    /* Whether the first one wins with so many pulls to come, the first one's when they are even. */
    private static boolean wins(Bell b, int pulls) {
        if (pulls == 0) return b.height == 20;
        if (pulls % 2 == 0) {
            for (int p = 0; p <= 6; p++) if (!b.pulled(p).over && wins(b.pulled(p), pulls - 1)) return true;
            return false;
        }
        for (int p = 0; p <= 3; p++) if (!b.pulled(p).over && !wins(b.pulled(p), pulls - 1)) return false;
        return true;
    }

    int game(int i, int n) {
        int no = bellRefused(i, in(n, 0, 3));
        return no != 0 ? no : wins(bells().get(i), 2 * n) ? 1 : 0;
    }

    int first(int i, int n) {
        int no = bellRefused(i, in(n, 1, 3));
        if (no != 0) return no;
        for (int p = 0; p <= 6; p++) {
            Bell b = bells().get(i).pulled(p);
            if (!b.over && wins(b, 2 * n - 1)) return p;
        }
        return NONE;
    }

    private int toldRefused(int i, int r) {
        int no = bellRefused(i, in(r, 0, 5));
        if (no != 0) return no;
        if (rows[r] == null) return find(1);
        if (rows[r].length % 2 == 1) return find(5);
        for (int k = 0; k < rows[r].length; k += 2) if (!in(rows[r][k], 0, 6)) return find(3);
        return 0;
    }

    private static boolean fits(Bell b, int damp, int[] pairs) {
        for (int k = 0; k < pairs.length; k += 2) {
            b = b.pulled(pairs[k]);
            Integer when = b.struck(damp);
            if (pairs[k + 1] != (when == null ? NONE : when)) return false;
        }
        return true;
    }

    int kinds(int i, int r) {
        int no = toldRefused(i, r);
        for (int k = 0; no >= 0 && k < 6; k++) no += fits(bells().get(i).of(k), damp, rows[r]) ? 1 << k : 0;
        return no;
    }

    int damps(int i, int r) {
        int no = toldRefused(i, r);
        for (int k = 0; no >= 0 && k < 4; k++) no += fits(bells().get(i), k, rows[r]) ? 1 << k : 0;
        return no;
    }

    int heights(int i, int r) {
        int no = toldRefused(i, r);
        for (int k = 0; no >= 0 && k < 21; k++) no += fits(bells().get(i).at(k), damp, rows[r]) ? 1 << k : 0;
        return no;
    }

    int broke(int i, int r) {
        int no = bellRefused(i, in(r, 0, 5));
        if (no != 0) return no;
        if (rows[r] == null) return find(1);
        for (int v : rows[r]) if (!in(v, 0, 6)) return find(3);
        Bell b = bells().get(i);
        for (int k = 0; k < rows[r].length; k++) {
            b = b.pulled(rows[r][k]);
            if (b.over) {
                asked = k & 1;
                return k;
            }
        }
        return NONE;
    }

    /* Goes through all rows of slips. */
    private int slips(int i, int pull, int n, int p, boolean height) {
        int no = bellRefused(i, in(pull, 0, 6) && in(n, 0, 8) && in(p, 0, 12));
        if (no != 0) return no;
        BigInteger sum = BigInteger.ZERO;
        for (int slips = 0; slips < 1 << n; slips++) {
            Bell b = bells().get(i);
            BigInteger parts = BigInteger.ONE;
            for (int k = 0; k < n; k++) {
                int slip = slips >> k & 1;
                parts = parts.multiply(BigInteger.valueOf(slip == 1 ? p : 12 - p));
                b = b.pulled(pull + slip);
            }
            sum = sum.add(parts.multiply(BigInteger.valueOf(height ? b.height : b.over ? 0 : 1)));
        }
        BigInteger all = BigInteger.valueOf(12).pow(n);
        BigInteger g = sum.gcd(all);
        upper = sum.divide(g).longValueExact();
        lower = all.divide(g).longValueExact();
        return 1;
    }

    int odds(int i, int pull, int n, int p) {
        return slips(i, pull, n, p, false);
    }

    int mid(int i, int pull, int n, int p) {
        return slips(i, pull, n, p, true);
    }

    int lots(int n, int seed) {
        if (!in(n, 1, 20) || !in(seed, 1, 2147483646)) return BAD;
        if (bells().isEmpty()) return STATE;
        if (deeds() + n > 40) return FULL;
        BigInteger x = BigInteger.valueOf(seed);
        for (int k = 0; k < n; k++) {
            int[] pulls = new int[bells().size()];
            for (int i = 0; i < pulls.length; i++) {
                if (bells().get(i).over) continue;
                x = x.multiply(BigInteger.valueOf(48271)).mod(BigInteger.valueOf(2147483647));
                pulls[i] = x.divide(BigInteger.valueOf(16)).mod(BigInteger.valueOf(4)).intValueExact();
            }
            past.add(rung(pulls));
        }
        return ringing();
    }

    int asked() {
        return asked;
    }

    long upper() {
        return upper;
    }

    long lower() {
        return lower;
    }

    int count(int what) {
        int[] all = new int[9];
        all[0] = bells().size();
        all[1] = damp;
        all[2] = deeds();
        all[3] = bells().size() - ringing();
        for (Bell b : bells()) {
            all[4] += told(b, 4);
            all[5] += b.heavy() ? 1 : 0;
        }
        for (int[] row : rows) all[6] += row == null ? 0 : 1;
        for (byte[] text : texts) all[7] += text == null ? 0 : 1;
        for (Object tower : kept) all[8] += tower == null ? 0 : 1;
        return in(what, 0, 8) ? all[what] : BAD;
    }

    int finding() {
        return finding;
    }

    int findings(int f) {
        return in(f, 1, 5) ? findings[f] : BAD;
    }

    long digest() {
        List<Integer> all = new ArrayList<>();
        for (int k = 0; k <= 8; k++) all.add(count(k));
        for (Bell b : bells()) for (int k = 0; k <= 5; k++) all.add(told(b, k));
        for (List<List<Bell>> tower : kept) all.add(tower == null ? -1 : tower.size() - 1);
        for (int[] row : rows) {
            all.add(row == null ? -1 : row.length);
            if (row != null) for (int v : row) all.add(v);
        }
        for (byte[] text : texts) {
            all.add(text == null ? -1 : text.length);
            if (text != null) for (byte v : text) all.add((int) v);
        }
        long h = 17;
        for (int v : all) h = 31 * h + v;
        return h;
    }
}
