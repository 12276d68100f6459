import java.util.Arrays;

/** A tower of bells that are swung up to the balance, rung, heard and reckoned with; README.md tells how to use it. */
public final class BellBalance {
    public static final int BAD = -1, FULL = -2, FINDING = -3, STATE = -4, SPENT = -6, NONE = -9;

    private static final int NOTHING = 1, BEYOND = 2, UNLIKE = 3, NOUGHT = 4, SIZE = 5;
    private static final int ROWS = 6, ROW_PLACES = 40, TEXTS = 4, TEXT_PLACES = 60, KEPT_PLACES = 3;
    private static final int MOST_BELLS = 6, MOST_DEEDS = 40, MOST_DAMP = 3;
    private static final int PULLS = 7, CHECKING_PULLS = 4;
    private static final int TOP = 20, HEIGHTS = 21, BREAKS_FROM = 22, STRIKES_FROM = 5;
    private static final int BROKEN = -1;
    private static final int MOST_STROKES = 30, MOST_ROW_OF_PULLS = 12, MOST_TENTHS = 40;
    private static final int MOST_TURNS = 3, MOST_SLIPPING = 8, OF_TWELVE = 12, MOST_LOTS = 20;
    private static final int BELL = 0, HEAVY = 1, QUICK = 2, BLIND = 3, GREAT = 4, TREBLE = 5, KINDS = 6;
    private static final int BELL_THINGS = 6, COUNTS = 9;
    private static final int APART = 2;
    private static final int BLANK = 32;
    private static final int OUTSIDE = 1000;
    private static final int FINE = 0;

    private final Row[] rows = new Row[ROWS];
    private final Row[] texts = new Row[TEXTS];
    private final Tower[] kept = new Tower[KEPT_PLACES];
    private final Tower now = new Tower();
    private final Tower draft = new Tower();
    private final Hearing hearing = new Hearing();
    private final Evening evening = new Evening();
    private final Paths paths = new Paths();
    private final Flow flow = new Flow();
    private final Play play = new Play();
    private final int[] found = new int[SIZE + 1];
    private int latestFound;
    private int told;
    private long toldUpper;
    private long toldLower = 1;

    public BellBalance() {
        for (int r = 0; r < ROWS; r++) {
            rows[r] = new Row(ROW_PLACES);
        }
        for (int t = 0; t < TEXTS; t++) {
            texts[t] = new Row(TEXT_PLACES);
        }
        for (int k = 0; k < KEPT_PLACES; k++) {
            kept[k] = new Tower();
        }
    }

    // ---- 1 rows, texts, towers

    public int row(int r, int n) {
        return isRow(r) ? anew(rows[r], n, 0) : BAD;
    }

    public int lay(int r, int i, int v) {
        int no = refusePlace(r, i);
        if (no != FINE) {
            return no;
        }
        told = rows[r].cells[i];
        rows[r].cells[i] = v;
        return 1;
    }

    public int at(int r, int i) {
        int no = refusePlace(r, i);
        if (no != FINE) {
            return no;
        }
        told = rows[r].cells[i];
        return 1;
    }

    public int tear(int r) {
        if (!isRow(r)) {
            return BAD;
        }
        if (!rows[r].there) {
            return find(NOTHING);
        }
        rows[r].there = false;
        rows[r].size = 0;
        return 1;
    }

    public int copy(int r, int i, int to, int j, int n) {
        if (!isRow(r) || !isRow(to)) {
            return BAD;
        }
        if (n < 0) {
            return find(SIZE);
        }
        Row from = rows[r];
        Row goal = rows[to];
        if (!from.there || !goal.there) {
            return find(NOTHING);
        }
        if (!from.spans(i, n) || !goal.spans(j, n)) {
            return find(BEYOND);
        }
        System.arraycopy(from.cells, i, goal.cells, j, n);
        return 1;
    }

    public int mean(int r) {
        if (!isRow(r)) {
            return BAD;
        }
        Row row = rows[r];
        if (!row.there) {
            return find(NOTHING);
        }
        if (row.size == 0) {
            return find(NOUGHT);
        }
        long sum = 0;
        for (int i = 0; i < row.size; i++) {
            sum += row.cells[i];
        }
        told = (int) (sum / row.size);
        return 1;
    }

    public int text(int t, int n) {
        return isText(t) ? anew(texts[t], n, BLANK) : BAD;
    }

    public int put(int t, int i, int v) {
        if (!isText(t)) {
            return BAD;
        }
        Row text = texts[t];
        if (!text.there) {
            return find(NOTHING);
        }
        if (!text.has(i)) {
            return find(BEYOND);
        }
        int was = text.cells[i];
        text.cells[i] = (byte) v;
        return was + 1000;
    }

    public int fault(int t) {
        if (!isText(t)) {
            return BAD;
        }
        return texts[t].there ? scan(texts[t]) : find(NOTHING);
    }

    public int tower(int t) {
        if (!isText(t)) {
            return BAD;
        }
        if (!texts[t].there) {
            return find(NOTHING);
        }
        if (scan(texts[t]) != NONE) {
            return STATE;
        }
        now.become(draft);
        for (int k = 0; k < KEPT_PLACES; k++) {
            kept[k].clear();
        }
        return now.size;
    }

    public int bell(int i, int what) {
        if (!now.has(i) || what < 0 || what >= BELL_THINGS) {
            return BAD;
        }
        told = now.bells[i].tell(what);
        return 1;
    }

    public int mark(int i, int kind) {
        if (!now.has(i) || kind <= BELL || kind >= KINDS) {
            return BAD;
        }
        Bell bell = now.bells[i];
        if (!isOf(bell.kind, kind)) {
            return find(UNLIKE);
        }
        switch (kind) {
            case HEAVY:
                return greatestWhole(bell);
            case QUICK:
                return TOP - bell.height;
            case BLIND:
                return now.tenthsBy(i, 1);
            case GREAT:
                return othersAsHeavy(i);
            default:
                return othersSooner(i);
        }
    }

    public int damp(int v) {
        if (v < 0 || v > MOST_DAMP) {
            return BAD;
        }
        if (now.size == 0) {
            return STATE;
        }
        int was = now.dampness;
        now.dampness = v;
        return was;
    }

    // ---- 2 deeds

    public int stroke(int i, int pull) {
        if (!isPull(pull)) {
            return BAD;
        }
        int no = refuseBell(i);
        if (no != FINE) {
            return no;
        }
        if (now.roomLeft() < 1) {
            return FULL;
        }
        now.act(Tower.strokeDeed(i, pull));
        return now.bells[i].height;
    }

    public int round(int r) {
        int no = refuseRound(r);
        if (no != FINE) {
            return no;
        }
        if (now.roomLeft() < 1) {
            return FULL;
        }
        listen(rows[r]);
        now.act(Tower.roundDeed(rows[r]));
        return hearing.bits();
    }

    public int mend(int i) {
        if (!now.has(i)) {
            return BAD;
        }
        if (!now.bells[i].over) {
            return STATE;
        }
        if (now.roomLeft() < 1) {
            return FULL;
        }
        now.act(Tower.mendDeed(i));
        return 1;
    }

    public int undo(int n) {
        if (n < 0 || n > now.deedCount) {
            return BAD;
        }
        int undone = now.deedCount - n;
        now.rewindTo(n);
        return undone;
    }

    public int keep(int k) {
        if (!isKept(k)) {
            return BAD;
        }
        if (now.size == 0) {
            return STATE;
        }
        kept[k].become(now);
        return now.deedCount;
    }

    public int on(int k) {
        if (!isKept(k)) {
            return BAD;
        }
        if (kept[k].size == 0) {
            return find(NOTHING);
        }
        now.become(kept[k]);
        return now.deedCount;
    }

    // ---- 3 one bell

    public int strikes(int i, int pull) {
        if (!isPull(pull)) {
            return BAD;
        }
        int no = refuseBell(i);
        return no != FINE ? no : now.tenthsBy(i, pull);
    }

    public int stands(int i) {
        int no = refuseBell(i);
        if (no != FINE) {
            return no;
        }
        Bell bell = now.bells[i];
        int standing = 0;
        int breaking = 0;
        for (int pull = 0; pull < PULLS; pull++) {
            int height = after(bell.kind, bell.height, pull);
            if (height == TOP) {
                standing |= 1 << pull;
            } else if (height == BROKEN) {
                breaking |= 1 << pull;
            }
        }
        told = breaking;
        return standing;
    }

    public int raise(int i, int r) {
        int no = isRow(r) ? refuseBell(i) : BAD;
        if (no != FINE) {
            return no;
        }
        Bell bell = now.bells[i];
        paths.measure(bell.kind, TOP);
        int fewest = paths.strokesFrom(bell.height);
        if (fewest != NONE) {
            paths.layFewest(bell, fewest, rows[r]);
        }
        return fewest;
    }

    public int ways(int i, int n) {
        if (n < 0 || n > MOST_ROW_OF_PULLS) {
            return BAD;
        }
        int no = refuseBell(i);
        if (no != FINE) {
            return no;
        }
        Bell bell = now.bells[i];
        flow.begin(bell.height);
        for (int k = 0; k < n; k++) {
            for (int pull = 0; pull < PULLS; pull++) {
                flow.spread(bell.kind, pull, 1);
            }
            flow.turn();
        }
        return tellParts(flow.here[TOP], 1);
    }

    public int arms(int i, int n, int height, int r) {
        if (n < 0 || n > MOST_ROW_OF_PULLS || height < 0 || height > TOP || !isRow(r)) {
            return BAD;
        }
        int no = refuseBell(i);
        if (no != FINE) {
            return no;
        }
        Bell bell = now.bells[i];
        paths.weigh(bell.kind, n, height);
        int least = paths.armsFrom(n, bell.height);
        if (least != NONE) {
            paths.layLightest(bell, n, rows[r]);
        }
        return least;
    }

    public int hold(int i, int tenths) {
        if (tenths < 0 || tenths > MOST_TENTHS) {
            return BAD;
        }
        int no = refuseBell(i);
        if (no != FINE) {
            return no;
        }
        int nearest = NONE;
        int least = OUTSIDE;
        for (int pull = 0; pull < PULLS; pull++) {
            int when = now.tenthsBy(i, pull);
            int difference = Math.abs(when - tenths);
            if (when != NONE && difference < least) {
                nearest = pull;
                least = difference;
            }
        }
        if (nearest != NONE) {
            told = least;
        }
        return nearest;
    }

    public int drops(int i) {
        int no = refuseBell(i);
        if (no != FINE) {
            return no;
        }
        Bell bell = now.bells[i];
        int height = bell.height;
        for (int k = 0; k <= MOST_STROKES; k++) {
            if (height < STRIKES_FROM) {
                return k;
            }
            height = after(bell.kind, height, 0);
        }
        return NONE;
    }

    public int back(int i) {
        int no = refuseBell(i);
        if (no != FINE) {
            return no;
        }
        paths.measure(now.bells[i].kind, STRIKES_FROM);
        return paths.strokesFrom(now.bells[i].height);
    }

    // ---- 4 a round

    public int error(int r) {
        int no = refuseRound(r);
        if (no != FINE) {
            return no;
        }
        listen(rows[r]);
        told = hearing.bits();
        return hearing.unevenness();
    }

    public int heard(int r, int place) {
        if (place < 0 || place >= MOST_BELLS) {
            return BAD;
        }
        int no = refuseRound(r);
        if (no != FINE) {
            return no;
        }
        listen(rows[r]);
        if (place >= hearing.size) {
            return NONE;
        }
        told = hearing.when[place];
        return hearing.who[place];
    }

    public int even(int r) {
        if (!isRow(r)) {
            return BAD;
        }
        if (now.size == 0) {
            return STATE;
        }
        evening.begin();
        hearing.clear();
        evening.seek(now, hearing, 0);
        if (evening.least != NONE) {
            evening.layBest(now.size, rows[r]);
        }
        return evening.least;
    }

    public int change(int r, int to) {
        if (!isRow(r) || !isRow(to)) {
            return BAD;
        }
        if (now.size == 0) {
            return STATE;
        }
        Row order = rows[r];
        if (!order.there) {
            return find(NOTHING);
        }
        if (order.size != now.ringing()) {
            return find(SIZE);
        }
        if (!now.isOrder(order)) {
            return find(UNLIKE);
        }
        return ringOrder(order, rows[to]);
    }

    public int orders() {
        return now.size == 0 ? STATE : now.ordersBehind(now.overBits(), NONE, 0);
    }

    public int late(int r) {
        int no = refuseRound(r);
        if (no != FINE) {
            return no;
        }
        listen(rows[r]);
        int latest = NONE;
        int widest = -1;
        for (int k = 1; k < hearing.size; k++) {
            int gap = hearing.when[k] - hearing.when[k - 1];
            if (gap > widest) {
                widest = gap;
                latest = hearing.who[k];
            }
        }
        if (latest != NONE) {
            told = widest;
        }
        return latest;
    }

    // ---- 5 by turns

    public int game(int i, int n) {
        if (n < 0 || n > MOST_TURNS) {
            return BAD;
        }
        int no = refuseBell(i);
        if (no != FINE) {
            return no;
        }
        play.reckon(now.bells[i].kind, n);
        return play.wins[now.bells[i].height] ? 1 : 0;
    }

    public int first(int i, int n) {
        if (n < 1 || n > MOST_TURNS) {
            return BAD;
        }
        int no = refuseBell(i);
        if (no != FINE) {
            return no;
        }
        play.reckon(now.bells[i].kind, n);
        return play.winningPull(now.bells[i].kind, now.bells[i].height);
    }

    // ---- 6 what was heard

    public int kinds(int i, int r) {
        int no = refuseTold(i, r);
        if (no != FINE) {
            return no;
        }
        Bell bell = now.bells[i];
        int bits = 0;
        for (int kind = 0; kind < KINDS; kind++) {
            if (fits(rows[r], kind, bell.weight, now.dampness, bell.height)) {
                bits |= 1 << kind;
            }
        }
        return bits;
    }

    public int damps(int i, int r) {
        int no = refuseTold(i, r);
        if (no != FINE) {
            return no;
        }
        Bell bell = now.bells[i];
        int bits = 0;
        for (int dampness = 0; dampness <= MOST_DAMP; dampness++) {
            if (fits(rows[r], bell.kind, bell.weight, dampness, bell.height)) {
                bits |= 1 << dampness;
            }
        }
        return bits;
    }

    public int heights(int i, int r) {
        int no = refuseTold(i, r);
        if (no != FINE) {
            return no;
        }
        Bell bell = now.bells[i];
        int bits = 0;
        for (int height = 0; height < HEIGHTS; height++) {
            if (fits(rows[r], bell.kind, bell.weight, now.dampness, height)) {
                bits |= 1 << height;
            }
        }
        return bits;
    }

    public int broke(int i, int r) {
        int no = isRow(r) ? refuseBell(i) : BAD;
        if (no != FINE) {
            return no;
        }
        Row row = rows[r];
        if (!row.there) {
            return find(NOTHING);
        }
        if (!row.hasPulls(1)) {
            return find(UNLIKE);
        }
        int height = now.bells[i].height;
        for (int k = 0; k < row.size; k++) {
            height = after(now.bells[i].kind, height, row.cells[k]);
            if (height == BROKEN) {
                told = k % 2;
                return k;
            }
        }
        return NONE;
    }

    // ---- 7 by slips, by lots

    public int odds(int i, int pull, int n, int p) {
        int no = refuseSlips(i, pull, n, p);
        if (no != FINE) {
            return no;
        }
        long all = slip(now.bells[i], pull, n, p);
        long whole = 0;
        for (int height = 0; height < HEIGHTS; height++) {
            whole += flow.here[height];
        }
        return tellParts(whole, all);
    }

    public int mid(int i, int pull, int n, int p) {
        int no = refuseSlips(i, pull, n, p);
        if (no != FINE) {
            return no;
        }
        long all = slip(now.bells[i], pull, n, p);
        long sum = 0;
        for (int height = 0; height < HEIGHTS; height++) {
            sum += flow.here[height] * height;
        }
        return tellParts(sum, all);
    }

    public int lots(int n, int seed) {
        if (n < 1 || n > MOST_LOTS || seed < 1 || seed > 2147483646) {
            return BAD;
        }
        if (now.size == 0) {
            return STATE;
        }
        if (now.roomLeft() < n) {
            return FULL;
        }
        long lot = seed;
        for (int k = 0; k < n; k++) {
            int deed = Tower.ROUND_DEEDS;
            int worth = 1;
            for (int i = 0; i < now.size; i++) {
                if (!now.bells[i].over) {
                    lot = lot * 48271L % 2147483647L;
                    deed += (int) (lot / 16 % 4) * worth;
                }
                worth *= PULLS;
            }
            now.act(deed);
        }
        return now.ringing();
    }

    // ---- 8 what is told

    public int asked() {
        return told;
    }

    public long upper() {
        return toldUpper;
    }

    public long lower() {
        return toldLower;
    }

    public int count(int what) {
        switch (what) {
            case 0:
                return now.size;
            case 1:
                return now.dampness;
            case 2:
                return now.deedCount;
            case 3:
                return now.size - now.ringing();
            case 4:
                return now.standing();
            case 5:
                return now.heavyOnes();
            case 6:
                return thereOf(rows);
            case 7:
                return thereOf(texts);
            case 8:
                return keptTowers();
            default:
                return BAD;
        }
    }

    public int finding() {
        return latestFound;
    }

    public int findings(int f) {
        return f >= NOTHING && f <= SIZE ? found[f] : BAD;
    }

    public long digest() {
        long h = 17;
        for (int what = 0; what < COUNTS; what++) {
            h = 31 * h + count(what);
        }
        for (int i = 0; i < now.size; i++) {
            for (int what = 0; what < BELL_THINGS; what++) {
                h = 31 * h + now.bells[i].tell(what);
            }
        }
        for (int k = 0; k < KEPT_PLACES; k++) {
            h = 31 * h + (kept[k].size == 0 ? -1 : kept[k].deedCount);
        }
        for (int r = 0; r < ROWS; r++) {
            h = rows[r].digestOn(h);
        }
        for (int t = 0; t < TEXTS; t++) {
            h = texts[t].digestOn(h);
        }
        return h;
    }

    // ---- what is refused

    private int find(int finding) {
        latestFound = finding;
        if (finding >= 0 && finding < found.length) {
            found[finding]++;
        }
        return FINDING;
    }

    private int refusePlace(int r, int i) {
        if (!isRow(r)) {
            return BAD;
        }
        if (!rows[r].there) {
            return find(NOTHING);
        }
        return rows[r].has(i) ? FINE : find(BEYOND);
    }

    private int refuseBell(int i) {
        if (!now.has(i)) {
            return BAD;
        }
        return now.bells[i].over ? STATE : FINE;
    }

    private int refuseRound(int r) {
        if (!isRow(r)) {
            return BAD;
        }
        if (now.size == 0) {
            return STATE;
        }
        if (!rows[r].there) {
            return find(NOTHING);
        }
        if (rows[r].size != now.size) {
            return find(SIZE);
        }
        return rows[r].hasPulls(1) ? FINE : find(UNLIKE);
    }

    private int refuseTold(int i, int r) {
        int no = isRow(r) ? refuseBell(i) : BAD;
        if (no != FINE) {
            return no;
        }
        if (!rows[r].there) {
            return find(NOTHING);
        }
        if (rows[r].size % 2 != 0) {
            return find(SIZE);
        }
        return rows[r].hasPulls(2) ? FINE : find(UNLIKE);
    }

    private int refuseSlips(int i, int pull, int n, int p) {
        if (!isPull(pull) || n < 0 || n > MOST_SLIPPING || p < 0 || p > OF_TWELVE) {
            return BAD;
        }
        return refuseBell(i);
    }

    private static boolean isRow(int r) {
        return r >= 0 && r < ROWS;
    }

    private static boolean isText(int t) {
        return t >= 0 && t < TEXTS;
    }

    private static boolean isKept(int k) {
        return k >= 0 && k < KEPT_PLACES;
    }

    private static boolean isPull(int pull) {
        return pull >= 0 && pull < PULLS;
    }

    // ---- helpers of the calls

    private int anew(Row row, int n, int filling) {
        if (n > row.cells.length) {
            return BAD;
        }
        if (n < 0) {
            return find(SIZE);
        }
        row.begin(n, filling);
        return n;
    }

    private int tellParts(long above, long below) {
        long shared = commonDivisor(above, below);
        if (shared != 0) {
            toldUpper = above / shared;
            toldLower = below / shared;
        }
        return 1;
    }

    private static long commonDivisor(long a, long b) {
        long greater = a;
        long lesser = b;
        for (int k = 0; k < 200 && lesser != 0; k++) {
            long rest = greater % lesser;
            greater = lesser;
            lesser = rest;
        }
        return greater;
    }

    private int greatestWhole(Bell bell) {
        for (int pull = PULLS - 1; pull > 0; pull--) {
            if (after(bell.kind, bell.height, pull) != BROKEN) {
                return pull;
            }
        }
        return 0;
    }

    private int othersAsHeavy(int i) {
        int others = 0;
        for (int k = 0; k < now.size; k++) {
            if (k != i && now.bells[k].weight >= now.bells[i].weight) {
                others++;
            }
        }
        return others;
    }

    private int othersSooner(int i) {
        int own = now.tenthsBy(i, 1);
        if (own == NONE) {
            return NONE;
        }
        int others = 0;
        for (int k = 0; k < now.size; k++) {
            int when = now.tenthsBy(k, 1);
            if (when != NONE && when < own) {
                others++;
            }
        }
        return others;
    }

    private void listen(Row pulls) {
        hearing.clear();
        for (int i = 0; i < now.size && i < pulls.size; i++) {
            int when = now.bells[i].over ? NONE : now.tenthsBy(i, pulls.cells[i]);
            if (when != NONE) {
                hearing.enter(i, APART * i + when);
            }
        }
    }

    /*
     * Each bell in turn takes the least pull by which it is heard behind the one ahead. No round of this
     * order has a lesser pull for any bell, so this one is also the first of them.
     */
    private int ringOrder(Row order, Row goal) {
        hearing.clear();
        int rank = NONE;
        for (int k = 0; k < order.size; k++) {
            int i = order.cells[k];
            int pull = now.soonestPull(i, rank);
            if (pull == NONE) {
                return NONE;
            }
            rank = now.rankBy(i, pull);
            hearing.enter(i, APART * i + now.tenthsBy(i, pull));
            evening.setBest(i, pull);
        }
        for (int i = 0; i < now.size; i++) {
            if (now.bells[i].over) {
                evening.setBest(i, 0);
            }
        }
        evening.layBest(now.size, goal);
        return hearing.unevenness();
    }

    private long slip(Bell bell, int pull, int n, int p) {
        flow.begin(bell.height);
        long all = 1;
        for (int k = 0; k < n; k++) {
            flow.spread(bell.kind, pull, OF_TWELVE - p);
            flow.spread(bell.kind, pull + 1, p);
            flow.turn();
            all *= OF_TWELVE;
        }
        return all;
    }

    private static boolean fits(Row pairs, int kind, int weight, int dampness, int from) {
        int height = from;
        for (int k = 0; k + 1 < pairs.size; k += 2) {
            if (height != BROKEN) {
                height = after(kind, height, pairs.cells[k]);
            }
            if (tenths(kind, weight, dampness, height) != pairs.cells[k + 1]) {
                return false;
            }
        }
        return true;
    }

    private static int thereOf(Row[] all) {
        int there = 0;
        for (int k = 0; k < all.length; k++) {
            if (all[k] != null && all[k].there) {
                there++;
            }
        }
        return there;
    }

    private int keptTowers() {
        int towers = 0;
        for (int k = 0; k < KEPT_PLACES; k++) {
            if (kept[k].size > 0) {
                towers++;
            }
        }
        return towers;
    }

    // ---- the small language

    /* Reads a tower into the draft: the place of the fault, or NONE. */
    private int scan(Row text) {
        draft.clear();
        int place = text.pastBlanks(0);
        if (text.sign(place) != 'd') {
            return place;
        }
        if (!text.isFigure(place + 1, 0, MOST_DAMP)) {
            return place + 1;
        }
        draft.dampness = text.figure(place + 1);
        place = text.pastBlanks(place + 2);
        for (int i = 0; i <= MOST_BELLS; i++) {
            if (i > 0 && place >= text.size) {
                return NONE;
            }
            int good = i < MOST_BELLS ? itemSigns(text, place) : 0;
            if (good < 4) {
                return place + good;
            }
            int height = 10 * text.figure(place + 2) + text.figure(place + 3);
            draft.addBell(kindOf(text.sign(place)), text.figure(place + 1), height);
            place = text.pastBlanks(place + 4);
        }
        return place;
    }

    /* How many of the four signs of a bell are as they should be, up to the first that is not. */
    private static int itemSigns(Row text, int place) {
        if (kindOf(text.sign(place)) == NONE) {
            return 0;
        }
        if (!text.isFigure(place + 1, 1, 9)) {
            return 1;
        }
        if (!text.isFigure(place + 2, 0, TOP / 10)) {
            return 2;
        }
        return text.isFigure(place + 3, 0, Math.min(9, TOP - 10 * text.figure(place + 2))) ? 4 : 3;
    }

    private static int kindOf(int letter) {
        switch (letter) {
            case 'b':
                return BELL;
            case 'h':
                return HEAVY;
            case 'q':
                return QUICK;
            case 'n':
                return BLIND;
            case 'g':
                return GREAT;
            case 't':
                return TREBLE;
            default:
                return NONE;
        }
    }

    // ---- kinds and strokes

    private static boolean isOf(int kind, int of) {
        return kind == of || of == BELL || kind == GREAT && of == HEAVY || kind == TREBLE && of == QUICK;
    }

    /* The height behind a stroke, or BROKEN. */
    private static int after(int kind, int height, int pull) {
        int more = isOf(kind, HEAVY) ? pull / 2 : pull;
        int less = isOf(kind, QUICK) ? 0 : 1;
        int then = Math.max(0, height + more - less);
        return then >= BREAKS_FROM ? BROKEN : Math.min(then, TOP);
    }

    /* When a bell that has come to a height strikes, from its pull; NONE: it does not (nor does a broken one). */
    private static int tenths(int kind, int weight, int dampness, int height) {
        if (height < STRIKES_FROM) {
            return NONE;
        }
        return 10 + height / 2 + weight / 3 - dampness + lag(kind);
    }

    private static int lag(int kind) {
        switch (kind) {
            case BLIND:
                return 1;
            case GREAT:
                return 2;
            case TREBLE:
                return -1;
            default:
                return 0;
        }
    }

    /** A row of ints, or a text of bytes, or a missing one; its places are made once and used again. */
    private static final class Row {
        final int[] cells;
        boolean there;
        int size;

        Row(int most) {
            cells = new int[Math.max(0, most)];
        }

        void begin(int n, int filling) {
            there = true;
            size = Math.max(0, Math.min(n, cells.length));
            Arrays.fill(cells, 0, size, filling);
        }

        boolean has(int i) {
            return i >= 0 && i < size;
        }

        boolean spans(int i, int n) {
            return i >= 0 && i <= size && n <= size - i;
        }

        boolean hasPulls(int step) {
            for (int k = 0; k < size; k += Math.max(1, step)) {
                if (!isPull(cells[k])) {
                    return false;
                }
            }
            return true;
        }

        void set(int i, int v) {
            if (has(i)) {
                cells[i] = v;
            }
        }

        int sign(int i) {
            return has(i) ? cells[i] : OUTSIDE;
        }

        int figure(int i) {
            return sign(i) - '0';
        }

        boolean isFigure(int i, int least, int most) {
            return figure(i) >= least && figure(i) <= most;
        }

        int pastBlanks(int from) {
            int place = from;
            while (place < size && sign(place) == BLANK) {
                place++;
            }
            return place;
        }

        long digestOn(long before) {
            long h = 31 * before + (there ? size : -1);
            for (int i = 0; i < size; i++) {
                h = 31 * h + cells[i];
            }
            return h;
        }
    }

    /** One bell: what the text says of it, and how it is now. */
    private static final class Bell {
        int kind;
        int weight;
        int start;
        int height;
        int strokes;
        boolean over;

        void begin(int itsKind, int itsWeight, int itsHeight) {
            kind = itsKind;
            weight = itsWeight;
            start = itsHeight;
            rewind();
        }

        void become(Bell other) {
            begin(other.kind, other.weight, other.start);
            height = other.height;
            strokes = other.strokes;
            over = other.over;
        }

        void rewind() {
            height = start;
            strokes = 0;
            over = false;
        }

        void swing(int pull) {
            if (over) {
                return;
            }
            int then = after(kind, height, pull);
            over = then == BROKEN;
            height = over ? 0 : then;
            strokes++;
        }

        void renewStay() {
            over = false;
            height = 0;
        }

        int tell(int what) {
            switch (what) {
                case 0:
                    return kind;
                case 1:
                    return weight;
                case 2:
                    return height;
                case 3:
                    return over ? 1 : 0;
                case 4:
                    return height == TOP ? 1 : 0;
                default:
                    return strokes;
            }
        }
    }

    /** Bells, damp ropes and deeds; without bells it is no tower. Deeds are kept as numbers, so that undoing is doing the rest anew. */
    private static final class Tower {
        static final int MEND_DEEDS = MOST_BELLS * PULLS, ROUND_DEEDS = MEND_DEEDS + MOST_BELLS;

        final Bell[] bells = new Bell[MOST_BELLS];
        final int[] deeds = new int[MOST_DEEDS];
        int size;
        int dampness;
        int deedCount;

        Tower() {
            for (int i = 0; i < MOST_BELLS; i++) {
                bells[i] = new Bell();
            }
        }

        static int strokeDeed(int i, int pull) {
            return i * PULLS + pull;
        }

        static int mendDeed(int i) {
            return MEND_DEEDS + i;
        }

        static int roundDeed(Row pulls) {
            int deed = 0;
            for (int i = pulls.size - 1; i >= 0; i--) {
                deed = deed * PULLS + pulls.cells[i];
            }
            return ROUND_DEEDS + deed;
        }

        boolean has(int i) {
            return i >= 0 && i < size;
        }

        int roomLeft() {
            return MOST_DEEDS - deedCount;
        }

        void clear() {
            size = 0;
            dampness = 0;
            deedCount = 0;
        }

        void addBell(int kind, int weight, int height) {
            if (size < MOST_BELLS) {
                bells[size].begin(kind, weight, height);
                size++;
            }
        }

        void become(Tower other) {
            size = other.size;
            dampness = other.dampness;
            deedCount = other.deedCount;
            for (int i = 0; i < size; i++) {
                bells[i].become(other.bells[i]);
            }
            for (int k = 0; k < deedCount; k++) {
                deeds[k] = other.deeds[k];
            }
        }

        void act(int deed) {
            if (deedCount < MOST_DEEDS) {
                deeds[deedCount] = deed;
                deedCount++;
                perform(deed);
            }
        }

        void rewindTo(int n) {
            for (int i = 0; i < size; i++) {
                bells[i].rewind();
            }
            deedCount = Math.max(0, Math.min(n, deedCount));
            for (int k = 0; k < deedCount; k++) {
                perform(deeds[k]);
            }
        }

        private void perform(int deed) {
            if (deed >= ROUND_DEEDS) {
                int pulls = deed - ROUND_DEEDS;
                for (int i = 0; i < size; i++) {
                    bells[i].swing(pulls % PULLS);
                    pulls /= PULLS;
                }
            } else if (deed >= MEND_DEEDS) {
                if (has(deed - MEND_DEEDS)) {
                    bells[deed - MEND_DEEDS].renewStay();
                }
            } else if (has(deed / PULLS)) {
                bells[deed / PULLS].swing(deed % PULLS);
            }
        }

        int tenthsBy(int i, int pull) {
            if (!has(i)) {
                return NONE;
            }
            Bell bell = bells[i];
            return tenths(bell.kind, bell.weight, dampness, after(bell.kind, bell.height, pull));
        }

        int ringing() {
            return size - Integer.bitCount(overBits());
        }

        int overBits() {
            int bits = 0;
            for (int i = 0; i < size; i++) {
                if (bells[i].over) {
                    bits |= 1 << i;
                }
            }
            return bits;
        }

        int standing() {
            int those = 0;
            for (int i = 0; i < size; i++) {
                those += bells[i].tell(4);
            }
            return those;
        }

        int heavyOnes() {
            int those = 0;
            for (int i = 0; i < size; i++) {
                if (isOf(bells[i].kind, HEAVY)) {
                    those++;
                }
            }
            return those;
        }

        boolean isOrder(Row order) {
            int seen = overBits();
            for (int k = 0; k < order.size; k++) {
                int i = order.cells[k];
                if (!has(i) || (seen >> i & 1) != 0) {
                    return false;
                }
                seen |= 1 << i;
            }
            return true;
        }

        /* A greater one is heard later: by tenths, of like ones by numbers. NONE: it is not heard. */
        int rankBy(int i, int pull) {
            int when = tenthsBy(i, pull);
            return when == NONE ? NONE : (APART * i + when) * MOST_BELLS + i;
        }

        /* Later strokes come of greater pulls, so the least pull is the soonest stroke. */
        int soonestPull(int i, int behindRank) {
            for (int pull = 0; pull < PULLS; pull++) {
                if (rankBy(i, pull) > behindRank) {
                    return pull;
                }
            }
            return NONE;
        }

        /* Bells that are heard as soon as may be leave the most room to those behind, so no order is missed. */
        private int ordersBehind(int past, int rank, int depth) {
            if (past == (1 << size) - 1 || depth > MOST_BELLS) {
                return 1;
            }
            int those = 0;
            for (int i = 0; i < size; i++) {
                int pull = (past >> i & 1) == 0 ? soonestPull(i, rank) : NONE;
                if (pull != NONE) {
                    those += ordersBehind(past | 1 << i, rankBy(i, pull), depth + 1);
                }
            }
            return those;
        }
    }

    /** Who is heard in a round, and when, in order. */
    private static final class Hearing {
        final int[] who = new int[MOST_BELLS];
        final int[] when = new int[MOST_BELLS];
        int size;

        void clear() {
            size = 0;
        }

        void enter(int bell, int tenth) {
            if (size >= MOST_BELLS) {
                return;
            }
            int place = size;
            while (place > 0 && isBehind(place - 1, bell, tenth)) {
                who[place] = who[place - 1];
                when[place] = when[place - 1];
                place--;
            }
            who[place] = bell;
            when[place] = tenth;
            size++;
        }

        private boolean isBehind(int place, int bell, int tenth) {
            return when[place] > tenth || when[place] == tenth && who[place] > bell;
        }

        void leave(int bell) {
            int left = 0;
            for (int k = 0; k < size; k++) {
                if (who[k] != bell) {
                    who[left] = who[k];
                    when[left] = when[k];
                    left++;
                }
            }
            size = left;
        }

        int bits() {
            int bits = 0;
            for (int k = 0; k < size; k++) {
                bits |= 1 << who[k];
            }
            return bits;
        }

        int unevenness() {
            int sum = 0;
            for (int k = 1; k < size; k++) {
                sum += Math.abs(when[k] - when[k - 1] - APART);
            }
            return sum;
        }
    }

    /** Seeks the pulls of the evenest round. */
    private static final class Evening {
        final int[] trial = new int[MOST_BELLS];
        final int[] best = new int[MOST_BELLS];
        int least = NONE;

        void begin() {
            least = NONE;
        }

        void setBest(int i, int pull) {
            if (i >= 0 && i < MOST_BELLS) {
                best[i] = pull;
            }
        }

        void layBest(int n, Row goal) {
            goal.begin(n, 0);
            for (int i = 0; i < n && i < MOST_BELLS; i++) {
                goal.set(i, best[i]);
            }
        }

        /* Of the pulls by which a bell strikes at one time the least stands for all: a greater one comes later in the order of rows. */
        private void seek(Tower tower, Hearing hearing, int i) {
            if (i >= tower.size || i >= MOST_BELLS) {
                take(hearing.unevenness());
                return;
            }
            if (tower.bells[i].over) {
                trial[i] = 0;
                seek(tower, hearing, i + 1);
                return;
            }
            int before = NONE;
            for (int pull = 0; pull < PULLS; pull++) {
                int when = tower.tenthsBy(i, pull);
                if (when != NONE && when != before) {
                    before = when;
                    trial[i] = pull;
                    hearing.enter(i, APART * i + when);
                    seek(tower, hearing, i + 1);
                    hearing.leave(i);
                }
            }
        }

        private void take(int unevenness) {
            if (least == NONE || unevenness < least) {
                least = unevenness;
                System.arraycopy(trial, 0, best, 0, MOST_BELLS);
            }
        }
    }

    /** Rows of pulls that bring one bell somewhere: by fewest strokes, or by least arms. */
    private static final class Paths {
        final int[] strokes = new int[HEIGHTS];
        final int[] sums = new int[(MOST_ROW_OF_PULLS + 1) * HEIGHTS];

        /* From each height, the fewest strokes to one that is high enough. */
        void measure(int kind, int enough) {
            for (int height = 0; height < HEIGHTS; height++) {
                strokes[height] = height >= enough ? 0 : NONE;
            }
            for (int k = 1; k <= MOST_STROKES; k++) {
                for (int height = 0; height < HEIGHTS; height++) {
                    if (strokes[height] == NONE && pullToward(kind, height, k - 1) != NONE) {
                        strokes[height] = k;
                    }
                }
            }
        }

        int strokesFrom(int height) {
            return height >= 0 && height < HEIGHTS ? strokes[height] : NONE;
        }

        private int pullToward(int kind, int height, int left) {
            for (int pull = 0; pull < PULLS; pull++) {
                int then = after(kind, height, pull);
                if (then != BROKEN && strokesFrom(then) == left) {
                    return pull;
                }
            }
            return NONE;
        }

        void layFewest(Bell bell, int fewest, Row goal) {
            goal.begin(fewest, 0);
            int height = bell.height;
            for (int k = 0; k < fewest; k++) {
                int pull = pullToward(bell.kind, height, fewest - 1 - k);
                goal.set(k, pull);
                height = after(bell.kind, height, pull);
            }
        }

        /* From each height, the least sum of so many pulls to the goal. */
        void weigh(int kind, int n, int goal) {
            for (int height = 0; height < HEIGHTS; height++) {
                sums[height] = height == goal ? 0 : NONE;
            }
            for (int left = 1; left <= n && left <= MOST_ROW_OF_PULLS; left++) {
                for (int height = 0; height < HEIGHTS; height++) {
                    int pull = lightestPull(kind, left, height);
                    sums[left * HEIGHTS + height] = pull == NONE ? NONE : sumBy(kind, left, height, pull);
                }
            }
        }

        int armsFrom(int left, int height) {
            if (left < 0 || left > MOST_ROW_OF_PULLS || height < 0 || height >= HEIGHTS) {
                return NONE;
            }
            return sums[left * HEIGHTS + height];
        }

        private int sumBy(int kind, int left, int height, int pull) {
            int then = after(kind, height, pull);
            int rest = then == BROKEN ? NONE : armsFrom(left - 1, then);
            return rest == NONE ? NONE : pull + rest;
        }

        private int lightestPull(int kind, int left, int height) {
            int lightest = NONE;
            int least = OUTSIDE;
            for (int pull = 0; pull < PULLS; pull++) {
                int sum = sumBy(kind, left, height, pull);
                if (sum != NONE && sum < least) {
                    least = sum;
                    lightest = pull;
                }
            }
            return lightest;
        }

        void layLightest(Bell bell, int n, Row goal) {
            goal.begin(n, 0);
            int height = bell.height;
            for (int k = 0; k < n; k++) {
                int pull = lightestPull(bell.kind, n - k, height);
                goal.set(k, pull);
                height = after(bell.kind, height, pull);
            }
        }
    }

    /** How many ways, or parts of a chance, lead to each height while the stay is whole. */
    private static final class Flow {
        final long[] here = new long[HEIGHTS];
        final long[] there = new long[HEIGHTS];

        void begin(int height) {
            Arrays.fill(here, 0);
            Arrays.fill(there, 0);
            if (height >= 0 && height < HEIGHTS) {
                here[height] = 1;
            }
        }

        void spread(int kind, int pull, long times) {
            for (int height = 0; height < HEIGHTS; height++) {
                int then = after(kind, height, pull);
                if (then != BROKEN) {
                    there[then] += here[height] * times;
                }
            }
        }

        void turn() {
            System.arraycopy(there, 0, here, 0, HEIGHTS);
            Arrays.fill(there, 0);
        }
    }

    /** The game of one who pulls against one who checks: from which heights the puller wins. */
    private static final class Play {
        final boolean[] wins = new boolean[HEIGHTS];
        final boolean[] winsBehind = new boolean[HEIGHTS];

        void reckon(int kind, int turns) {
            for (int height = 0; height < HEIGHTS; height++) {
                wins[height] = height == TOP;
            }
            for (int k = 0; k < turns; k++) {
                for (int height = 0; height < HEIGHTS; height++) {
                    winsBehind[height] = winsAgainstAll(kind, height);
                }
                for (int height = 0; height < HEIGHTS; height++) {
                    wins[height] = winningPull(kind, height) != NONE;
                }
            }
        }

        private boolean winsAgainstAll(int kind, int height) {
            for (int pull = 0; pull < CHECKING_PULLS; pull++) {
                int then = after(kind, height, pull);
                if (then != BROKEN && !wins[then]) {
                    return false;
                }
            }
            return true;
        }

        int winningPull(int kind, int height) {
            for (int pull = 0; pull < PULLS; pull++) {
                int then = after(kind, height, pull);
                if (then != BROKEN && winsBehind[then]) {
                    return pull;
                }
            }
            return NONE;
        }
    }
}
