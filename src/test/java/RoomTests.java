import java.lang.management.ManagementFactory;
import java.lang.reflect.Method;
import java.lang.reflect.Modifier;
import java.util.ArrayList;
import java.util.List;
import java.util.Random;

/** No call throws, whatever it is given, and none makes an object: all is made with the object itself. */
public final class RoomTests {
    private static final Due DUE = new Due("RoomTests");
    private static final int[] EDGES = {Integer.MIN_VALUE, Integer.MIN_VALUE + 1, -10, -9, -1, 0, 1, 2, 3, 4, 5, 6, 7, 12, 13, 20, 21, 40, 41, 60, 61, 2147483646, Integer.MAX_VALUE};

    public static void main(String[] args) throws Exception {
        noneThrows();
        noneMakes();
        DUE.end();
    }

    private static BellBalance tower(String s) {
        BellBalance x = new BellBalance();
        x.text(0, s.length());
        for (int i = 0; i < s.length(); i++) {
            x.put(0, i, s.charAt(i));
        }
        x.tower(0);
        return x;
    }

    private static List<Method> face() {
        List<Method> all = new ArrayList<>();
        for (Method m : BellBalance.class.getDeclaredMethods()) {
            if (Modifier.isPublic(m.getModifiers())) {
                all.add(m);
            }
        }
        all.sort((a, b) -> a.getName().compareTo(b.getName()));
        return all;
    }

    private static void noneThrows() throws Exception {
        Random random = new Random(5);
        List<Method> face = face();
        for (int run = 0; run < 400; run++) {
            BellBalance x = run % 4 == 0 ? new BellBalance() : tower(run % 4 == 1 ? "d0 q120" : "d2 b110 g916 t100 n105");
            for (int k = 0; k < 480; k++) {
                Method m = face.get(random.nextInt(face.size()));
                Object[] given = new Object[m.getParameterCount()];
                for (int p = 0; p < given.length; p++) {
                    given[p] = EDGES[random.nextInt(EDGES.length)];
                }
                try {
                    m.invoke(x, given);
                } catch (java.lang.reflect.InvocationTargetException e) {
                    e.getCause().printStackTrace();
                    DUE.holds(m.getName() + " " + java.util.Arrays.toString(given) + " threw " + e.getCause(), false);
                }
            }
        }
        DUE.holds("calls were made", face.size() == 49);
    }

    private static void noneMakes() {
        com.sun.management.ThreadMXBean room = (com.sun.management.ThreadMXBean) ManagementFactory.getThreadMXBean();
        long me = Thread.currentThread().getId();
        allCalls(tower("d1 b412 h918 q120 n305 g816 t219"));
        BellBalance x = tower("d1 b412 h918 q120 n305 g816 t219");
        long before = room.getThreadAllocatedBytes(me);
        long sum = allCalls(x);
        long made = room.getThreadAllocatedBytes(me) - before;
        DUE.holds("bytes made by all calls: " + made + ", " + sum, made < 1024);
        before = room.getThreadAllocatedBytes(me);
        BellBalance[] some = new BellBalance[64];
        for (int k = 0; k < some.length; k++) {
            some[k] = new BellBalance();
        }
        made = (room.getThreadAllocatedBytes(me) - before) / some.length;
        DUE.holds("bytes made by a new object: " + made, made < 10000);
    }

    private static long allCalls(BellBalance x) {
        long s = x.row(0, 6) + x.lay(0, 0, 1) + x.at(0, 0) + x.row(1, 6) + x.copy(0, 0, 1, 0, 6) + x.mean(0) + x.tear(1) + x.text(1, 9) + x.put(1, 0, 3) + x.fault(1);
        s += x.tower(0) + x.bell(0, 0) + x.mark(1, 1) + x.mark(4, 4) + x.mark(5, 5) + x.mark(5, 2) + x.mark(3, 3) + x.damp(1);
        s += x.stroke(0, 3) + x.round(0) + x.stroke(2, 6) + x.mend(2) + x.undo(1) + x.keep(0) + x.on(0);
        s += x.strikes(0, 1) + x.stands(0) + x.raise(3, 1) + x.ways(3, 12) + x.arms(3, 12, 20, 1) + x.hold(0, 17) + x.drops(0) + x.back(0);
        s += x.error(0) + x.heard(0, 0) + x.even(1) + x.orders() + x.late(0);
        for (int i = 0; i < 6; i++) {
            s += x.lay(0, i, i);
        }
        s += x.change(0, 2) + x.game(0, 3) + x.first(0, 3) + x.row(3, 4) + x.kinds(0, 3) + x.damps(0, 3) + x.heights(0, 3) + x.broke(0, 3);
        s += x.odds(0, 3, 8, 5) + x.mid(0, 3, 8, 5) + x.lots(20, 99) + x.asked() + x.upper() + x.lower() + x.count(6) + x.finding() + x.findings(1) + x.digest();
        return s;
    }
}
