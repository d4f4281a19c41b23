import java.lang.management.ManagementFactory;
import java.lang.reflect.InvocationTargetException;
import java.lang.reflect.Method;
import java.lang.reflect.Modifier;
import java.util.ArrayList;
import java.util.List;
import java.util.NoSuchElementException;
import java.util.Random;

/** Any arguments in any state: nothing is thrown but what dancer throws, and calls make no objects. */
public final class AnyArgumentTests {
    private static final int[] ENDS = {Integer.MIN_VALUE, Integer.MIN_VALUE + 1, -65536, -1000, -49, -48, -2, -1, 0, 1, 2, 3, 4,
        5, 6, 7, 8, 9, 10, 19, 20, 21, 23, 24, 25, 31, 32, 33, 47, 48, 49, 63, 64, 98, 99, 100, 699, 700, 701, 9999, 65535,
        65536, 1 << 25, Integer.MAX_VALUE - 1, Integer.MAX_VALUE};
    private static final String TEXT = Check.dancers(6) + "over 0 0;under 1 1;over 2 2;under 2 3;over 3 4;slip 40;seed 5;"
            + "law may many/(year-3)<9 or not bond>2;law vow above*below-place*left;law loosen (bond+2)*20;";

    public static void main(String[] args) {
        List<Method> calls = new ArrayList<>();
        for (Method method : MaypoleRegister.class.getDeclaredMethods()) {
            if (Modifier.isPublic(method.getModifiers())) {
                calls.add(method);
            }
        }
        for (int seed = 0; seed < 200; seed++) {
            callAny(calls, new Random(seed));
        }
        callsMakeNoObjects();
        Check.finish("AnyArgumentTests");
    }

    private static void callAny(List<Method> calls, Random random) {
        MaypoleRegister register = random.nextInt(3) == 0 ? new MaypoleRegister() : Check.with(TEXT);
        for (int i = 0; i < 600; i++) {
            Method call = calls.get(random.nextInt(calls.size()));
            Object[] arguments = new Object[call.getParameterCount()];
            for (int k = 0; k < arguments.length; k++) {
                int kind = random.nextInt(8);
                int value = kind == 0 ? random.nextInt() : kind < 3 ? ENDS[random.nextInt(ENDS.length)] : random.nextInt(6);
                arguments[k] = call.getParameterTypes()[k] == boolean.class ? (Object) (value % 2 == 0) : (Object) value;
            }
            Check.due(call + " throws", throwsWrongly(register, call, arguments), false);
        }
    }

    private static boolean throwsWrongly(MaypoleRegister register, Method call, Object[] arguments) {
        try {
            call.invoke(register, arguments);
            return false;
        } catch (InvocationTargetException e) {
            Class<?> thrown = e.getCause().getClass();
            // the machine's own exceptions are of classes below these
            return !call.getName().equals("dancer")
                    || thrown != IndexOutOfBoundsException.class && thrown != NoSuchElementException.class;
        } catch (IllegalAccessException e) {
            return true;
        }
    }

    private static long allocated() {
        return ((com.sun.management.ThreadMXBean) ManagementFactory.getThreadMXBean()).getCurrentThreadAllocatedBytes();
    }

    /** The least of some measurings: the machine itself makes an object now and then while it compiles. */
    private static void callsMakeNoObjects() {
        callAll(Check.with(TEXT));
        long least = Long.MAX_VALUE;
        long sum = 0;
        for (int round = 0; round < 9; round++) {
            MaypoleRegister register = Check.with(TEXT);
            long before = allocated();
            for (int i = 0; i < 10; i++) {
                sum += callAll(register);
            }
            least = Math.min(least, allocated() - before);
        }
        Check.due("bytes made by 10 rounds of calls, " + least + " (" + sum + ")", least < 1000, true);
        least = Long.MAX_VALUE;
        for (int round = 0; round < 9; round++) {
            long before = allocated();
            new MaypoleRegister().count(0);
            least = Math.min(least, allocated() - before);
        }
        Check.due("bytes of a register, " + least, least < 40000, true);
    }

    private static long callAll(MaypoleRegister x) {
        // "slip 1; slip 1;", which is a fault: the dancers stay
        long sum = x.feed(0x736c6970, 0x20313b20, 0x736c6970, 0x20313b20, 0x20202020);
        sum += x.text(20) + x.fault(0) + x.named(1 << 25);
        sum += x.cross(0, true) + x.cross(1, false) + x.feast(7, 12) + x.undo() + x.go(3) + x.cross(2, true) + x.keep();
        for (int i = 0; i < 14; i++) {
            sum += x.count(i) + x.ahead(9, i) + x.danceBack(i) + x.make(1 << i, 0) + x.looseRows(i) + x.holds(i, 0);
            sum += x.crossing(i, i) + x.bond(0, i) + x.at(i, 0) + x.law(i, 0) + x.freed(i) + x.tied(0, 1, i);
            sum += x.read(i, 0, i, true) + x.readBond(0, 1, i, false) + x.strike(i) + x.fits(i) + x.chance(i, i);
            sum += x.tried(i, 0, 50) + x.lean() + x.alike();
            sum += (x.swap(i) ? 1 : 0) + (x.cancel(i) ? 1 : 0) + (x.slide(i) ? 1 : 0) + (x.known(i) ? 1 : 0);
        }
        sum += x.dancer(0, 1) + x.letGo(5) + (x.isHome() ? 1 : 0) + (x.isLoose() ? 1 : 0) + x.back();
        return sum;
    }
}
