import java.lang.management.ManagementFactory;
import java.lang.reflect.Array;
import java.lang.reflect.Field;
import java.lang.reflect.Modifier;
import java.util.IdentityHashMap;
import java.util.Map;

/**
 * What an object keeps is little enough for hundreds of objects in one run, and no call makes
 * anything once the rows of its first use are there.
 */
public final class RoomTest {
    private static final Due DUE = new Due("RoomTest");
    private static final long OBJECTS = 600000;
    private static final long ELEMENTS = 7300000;
    private static final int CALLS = 512;
    private static final String TEXT = "house a 0 9; house b 1 9; house c 2 9; house d 3 9; house e 4 9; work u a b 1 1;"
        + "work v a b 1 1; work w a b 1 1; work x a b 1 1; work y a b 1 1; work z a b 1 1; term u many < 4; term v same < 5;"
        + "couriers 3; likes = if many < 2 then value else north;";

    private static long elements;

    private static void count(Object o, Map<Object, Object> seen) throws Exception {
        if (o == null || seen.put(o, o) != null) {
            return;
        }
        Class<?> c = o.getClass();
        if (c.isArray()) {
            elements += Array.getLength(o);
            return;
        }
        for (Field f : c.getDeclaredFields()) {
            if (!Modifier.isStatic(f.getModifiers())) {
                elements++;
                if (!f.getType().isPrimitive()) {
                    f.setAccessible(true);
                    count(f.get(o), seen);
                }
            }
        }
    }

    private static int askAll(LentPictures x) {
        int sum = Due.tell(x, TEXT) + x.place() + x.house(0, 4) + x.may(0, 0) + x.holds(0, 0) + x.likes(0, 0) + x.trip(0, 0);
        sum += x.send(0, 0) + (x.lift(0, true) ? 1 : 0) + x.days(1) + (x.undo() ? 1 : 0) + (x.well() ? 1 : 0) + x.bad();
        sum += x.hangings() + x.nearest(0) + x.quarrel(0) + x.home(true) + x.home(false) + x.swaps(-1) + x.backs(0);
        sum += x.soonest() + x.then(0, 1) + x.times(0, 1, 1, 20) + x.owes(0, 1) + x.richest(true) + x.lent(0, 1);
        sum += x.list(0, 0, 1) + x.fits(1, 0) + x.least(1) + x.sure(1, 0) + x.forget() + (x.hold(0) ? 1 : 0);
        return sum + (x.restore(0) ? 1 : 0) + x.count(6);
    }

    public static void main(String[] args) throws Exception {
        LentPictures x = new LentPictures();
        askAll(x);
        Map<Object, Object> seen = new IdentityHashMap<>();
        count(x, seen);
        System.out.println("RoomTest: " + seen.size() + " objects, " + elements + " fields and elements an object");
        DUE.is("objects of a run with a new object each call", seen.size() * (long) CALLS < OBJECTS, true);
        DUE.is("elements of a run with a new object each call", elements * CALLS < ELEMENTS, true);
        com.sun.management.ThreadMXBean bean = (com.sun.management.ThreadMXBean) ManagementFactory.getThreadMXBean();
        long least = Long.MAX_VALUE;
        for (int i = 0; i < 5; i++) {
            long before = bean.getThreadAllocatedBytes(Thread.currentThread().getId());
            askAll(x);
            least = Math.min(least, bean.getThreadAllocatedBytes(Thread.currentThread().getId()) - before);
        }
        DUE.is("bytes made by all calls once more: " + least, least < 2000, true);
        DUE.end();
    }
}
