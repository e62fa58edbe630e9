import java.lang.management.ManagementFactory;
import java.lang.reflect.Method;
import java.lang.reflect.Modifier;
import java.util.ArrayList;
import java.util.Arrays;
import java.util.Comparator;
import java.util.List;
import java.util.Random;

/** No call throws, whatever comes; refused calls change nothing; no call makes an object. */
public final class RobustTest {
    private static final int[] EDGES = {Integer.MIN_VALUE, Integer.MIN_VALUE + 1, -101, -100, -99, -7, -6, -5, -2, -1,
        0, 1, 2, 3, 4, 7, 8, 9, 10, 11, 12, 13, 15, 16, 17, 19, 20, 21, 40, 63, 64, 99, 100, 111, 112, 199, 219, 220,
        315, 316, 400, 1919, 1999, 2000, Integer.MAX_VALUE - 1, Integer.MAX_VALUE};

    public static void main(String[] args) throws ReflectiveOperationException {
        nothingIsThrown();
        refusedCallsChangeNothing();
        noCallMakesObjects();
        Check.end();
    }

    private static List<Method> face() {
        List<Method> methods = new ArrayList<>();
        for (Method m : RoadTrace.class.getDeclaredMethods()) {
            if (Modifier.isPublic(m.getModifiers())) {
                methods.add(m);
            }
        }
        methods.sort(Comparator.comparing(Method::getName));
        return methods;
    }

    /** Far more calls than the 512, with edges as often as with numbers that fit. */
    private static void nothingIsThrown() throws ReflectiveOperationException {
        List<Method> face = face();
        Check.due("methods of the face", face.size(), 18);
        for (int run = 0; run < 400; run++) {
            Random chance = new Random(run);
            RoadTrace x = run % 3 == 0 ? new RoadTrace() : fullNet(chance);
            int edges = chance.nextInt(4);
            for (int i = 0; i < 1500; i++) {
                Method m = face.get(chance.nextInt(face.size()));
                Object[] numbers = new Object[m.getParameterCount()];
                for (int k = 0; k < numbers.length; k++) {
                    numbers[k] = chance.nextInt(4) < edges ? EDGES[chance.nextInt(EDGES.length)] : chance.nextInt(16);
                }
                try {
                    m.invoke(x, numbers);
                } catch (java.lang.reflect.InvocationTargetException e) {
                    Check.isTrue(m.getName() + Arrays.toString(numbers) + " threw " + e.getCause(), false);
                }
            }
        }
    }

    private static RoadTrace fullNet(Random chance) {
        RoadTrace x = new RoadTrace();
        for (int i = 0; i < 12; i++) {
            x.crossing(i % 4 * 5, i / 4 * 5);
        }
        for (int i = 0; i < 400; i++) {
            x.road(chance.nextInt(12), chance.nextInt(12), chance.nextInt(2));
        }
        x.rule(0, 8);
        for (int i = 0; i < 16; i++) {
            x.fix(chance.nextInt(18), chance.nextInt(13));
        }
        return x;
    }

    private static void refusedCallsChangeNothing() {
        RoadTrace x = fullNet(new Random(5));
        String before = Seen.all(x);
        int[] refused = {x.crossing(40, 40), x.crossing(64, 0), x.road(0, 1, 0), x.road(0, 12, 0), x.road(0, 1, 2),
            x.rule(0, 3), x.rule(0, 9), x.fix(3, 3), x.fix(64, 0), x.image(2), x.restore(0), x.restore(2)};
        for (int answer : refused) {
            Check.isTrue("refused with " + answer, answer < 0);
        }
        Check.isTrue("refused calls change nothing", before.equals(Seen.all(x)));
        x.image(1);
        Check.isTrue("an image changes nothing", before.equals(Seen.all(x)));
        x.drop();
        x.drop();
        Check.isTrue("what is compared does change", !before.equals(Seen.all(x)));
        x.restore(1);
        Check.isTrue("all is restored", before.equals(Seen.all(x)));
    }

    /** All calls of a run live in one room, so what is needed is made by the constructor alone. */
    private static void noCallMakesObjects() {
        com.sun.management.ThreadMXBean bean =
            (com.sun.management.ThreadMXBean) ManagementFactory.getThreadMXBean();
        RoadTrace x = fullNet(new Random(9));
        long sum = everyCall(x);
        long before = bean.getCurrentThreadAllocatedBytes();
        for (int i = 0; i < 100; i++) {
            sum += everyCall(x);
        }
        long made = bean.getCurrentThreadAllocatedBytes() - before;
        Check.isTrue("calls make no objects, but " + made + " bytes came (" + sum + ")", made < 1000);
    }

    private static long everyCall(RoadTrace x) {
        long sum = x.image(0) + x.drop() + x.fix(3, 4) + x.crossing(1, 1) + x.road(0, 1, 0) + x.rule(0, 1);
        sum += x.cell(1, 1) + x.between(0, 5) + x.way(0, 301) + x.candidate(3, 0, 0) + x.best(3) + x.decided(3);
        sum += x.piece(3) + x.step(3) + x.through(3, 1) + x.restore(0);
        for (int what = 0; what < 5; what++) {
            sum += x.total(what) + x.told(what);
        }
        return sum;
    }
}
