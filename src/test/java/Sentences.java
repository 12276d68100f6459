import java.nio.file.Files;
import java.nio.file.Path;
import java.util.ArrayList;
import java.util.Arrays;
import java.util.List;

/**
 * The document's sentences, each with a test of its own. A test begins by says(), with the number of the promise and
 * the sentence's own words: these must stand in ../shared/DOC.md under that promise, and at the end every word that
 * stands there must have been named by a test.
 */
final class Sentences {
    /** Instead of a promise's number: what holds for all promises. */
    static final int TERMS = 0;
    private static final int PROMISES = 50;

    interface Scene {
        BellBalance make();
    }

    interface Call {
        long on(BellBalance x);
    }

    private final Due due = new Due("SentenceTests");
    private final String[] told = new String[PROMISES + 1];
    private final boolean[][] tested = new boolean[PROMISES + 1][];
    private String sentence = "";
    private boolean looked = true;

    Sentences(String document) {
        String all = document.replaceAll("(?m)^```.*$", " ").replaceAll("\\s+", " ");
        told[TERMS] = between(all, "An object is used", "## The public face") + between(all, "## Terms ", "## Promise 1: ");
        told[TERMS] = told[TERMS].replaceAll("Ahead of the calls .*? the interface says: ---- \\d [a-z, ]*", "").replaceAll("## Terms |======== \\d ", "");
        for (int p = 1; p <= PROMISES; p++) {
            String its = between(all, "## Promise " + p + ": ", p < PROMISES ? "## Promise " + (p + 1) + ": " : "## Not promised");
            told[p] = its.replaceAll("^.*?`[^`]*`: ", "");
        }
        for (int p = 0; p <= PROMISES; p++) {
            tested[p] = new boolean[told[p].length()];
        }
    }

    static Sentences ofTheDocument() throws Exception {
        return new Sentences(Files.readString(Path.of(System.getProperty("project", "."), "../shared/DOC.md")));
    }

    private static String between(String all, String from, String to) {
        int begin = all.indexOf(from);
        int end = all.indexOf(to, Math.max(0, begin));
        return begin < 0 || end < 0 ? "" : all.substring(begin, end);
    }

    /** Begins the test of a sentence. */
    void says(int promise, String words) {
        due.holds(sentence + ": it has a test", looked);
        sentence = (promise == TERMS ? "terms" : "promise " + promise) + ", '" + words + "'";
        looked = false;
        int place = told[promise].indexOf(words);
        due.holds(sentence + ": the document says so", place >= 0);
        while (place >= 0) {
            Arrays.fill(tested[promise], place, place + words.length(), true);
            place = told[promise].indexOf(words, place + 1);
        }
    }

    void is(String what, long got, long want) {
        looked = true;
        due.is(sentence + ": " + what, got, want);
    }

    /** The call answers so, on an object of its own. */
    void is(Scene scene, String what, long want, Call call) {
        is(what, call.on(scene.make()), want);
    }

    /** The call answers so, and asked() tells so. */
    void tells(Scene scene, String what, long want, long asked, Call call) {
        BellBalance x = scene.make();
        is(what, call.on(x), want);
        is(what + ", asked()", x.asked(), asked);
    }

    /** The call answers so, and upper(), lower() tell so. */
    void chance(Scene scene, String what, long upper, long lower, Call call) {
        BellBalance x = scene.make();
        is(what, call.on(x), 1);
        is(what + ", upper()", x.upper(), upper);
        is(what + ", lower()", x.lower(), lower);
    }

    /** The call is refused so (BAD, FULL, STATE), or answers NONE, and changes nothing. */
    void no(Scene scene, String what, long want, Call call) {
        BellBalance x = scene.make();
        is(what, call.on(x), want);
        alike(what + " changes nothing", seen(x, true), seen(scene.make(), true));
    }

    /** The call is refused by a FINDING, and changes nothing but finding(), findings(). */
    void finds(Scene scene, String what, int finding, Call call) {
        BellBalance x = scene.make();
        int[] before = new int[6];
        for (int f = 1; f <= 5; f++) {
            before[f] = x.findings(f);
        }
        is(what, call.on(x), Scenes.FINDING);
        is(what + ", finding()", x.finding(), finding);
        for (int f = 1; f <= 5; f++) {
            is(what + ", findings(" + f + ")", x.findings(f), before[f] + (f == finding ? 1 : 0));
        }
        alike(what + " changes nothing", seen(x, false), seen(scene.make(), false));
    }

    /** The call answers so and changes nothing but asked(), upper(), lower(). */
    void aside(Scene scene, String what, long want, Call call) {
        BellBalance x = scene.make();
        is(what, call.on(x), want);
        List<Long> got = seen(x, true);
        List<Long> due = seen(scene.make(), true);
        alike(what + " is aside", got.subList(3, got.size()), due.subList(3, due.size()));
    }

    /** The row holds just these; asked() is spent by it. */
    void row(String what, BellBalance x, int r, int... v) {
        for (int i = 0; i < v.length; i++) {
            is(what + ", place " + i + " is there", x.at(r, i), 1);
            is(what + ", place " + i, x.asked(), v[i]);
        }
        is(what + ", no more places", x.at(r, v.length), Scenes.FINDING);
        is(what + ", no more places, finding()", x.finding(), Scenes.BEYOND);
    }

    void missing(String what, BellBalance x, int r) {
        is(what + " is missing", x.at(r, 0), Scenes.FINDING);
        is(what + " is missing, finding()", x.finding(), Scenes.NOTHING);
    }

    /* All that can be seen of an object: what was told, what is there, its deeds one by one, and its kept towers. */
    private static List<Long> seen(BellBalance x, boolean findingsToo) {
        List<Long> all = new ArrayList<>(List.of((long) x.asked(), x.upper(), x.lower()));
        if (findingsToo) {
            all.add((long) x.finding());
            for (int f = 1; f <= 5; f++) {
                all.add((long) x.findings(f));
            }
        }
        boolean[] kept = new boolean[3];
        towerSeen(x, all);
        for (int k = 0; k < 3; k++) {
            kept[k] = x.on(k) != Scenes.FINDING;
            all.add(kept[k] ? 1L : 0L);
            if (kept[k]) {
                towerSeen(x, all);
            }
        }
        return all;
    }

    private static void towerSeen(BellBalance x, List<Long> all) {
        all.add(x.digest());
        for (int n = x.count(Scenes.DEEDS) - 1; n >= 0; n--) {
            all.add((long) x.undo(n));
            all.add(x.digest());
        }
    }

    /** The same things, one by one. */
    void alike(String what, List<Long> got, List<Long> want) {
        is(what + ", as many things seen", got.size(), want.size());
        for (int k = 0; k < Math.min(got.size(), want.size()); k++) {
            is(what + ", thing " + k, got.get(k), want.get(k));
        }
    }

    /** Words of the document that no test has named are told; then the end. */
    void end() {
        due.holds(sentence + ": it has a test", looked);
        for (int p = 0; p <= PROMISES; p++) {
            due.holds("the document has words of " + p, told[p].length() > 0);
            StringBuilder untested = new StringBuilder();
            for (int k = 0; k < told[p].length(); k++) {
                boolean word = Character.isLetterOrDigit(told[p].charAt(k));
                untested.append(!tested[p][k] && word ? told[p].charAt(k) : ' ');
            }
            String left = untested.toString().trim().replaceAll("\\s+", " ");
            due.holds((p == TERMS ? "terms" : "promise " + p) + ", words without a test: " + left, left.isEmpty());
        }
        due.end();
    }
}
