import java.lang.reflect.InvocationTargetException;
import java.lang.reflect.Method;
import java.lang.reflect.Modifier;
import java.util.ArrayList;
import java.util.Arrays;
import java.util.Comparator;
import java.util.List;
import java.util.Random;
import java.util.Set;

/**
 * Calls by chance, with any numbers, on texts of any bytes: none throws, and those that only ask change
 * nothing. The latter is seen by a second object, which does what the first one does and asks nothing.
 */
public final class AnyCallTest {
    private static final Due DUE = new Due("AnyCallTest");
    private static final Set<String> DOING = Set.of("feed", "back", "read", "send", "lift", "days", "undo", "list", "forget",
        "hold", "restore");
    private static final int[] EDGES = {-1, -2, 0, 1, 2, 3, 4, 5, 6, 7, 12, 13, 19, 20, 21, 40, 98, 99, 100, 200, 201, 1980,
        2000, 2001, 1 << 16, 1 << 30, Integer.MAX_VALUE, Integer.MIN_VALUE, Integer.MIN_VALUE + 1};
    private static final int RUNS = 150;
    private static final int CALLS = 300;

    private final Random random;
    private final Texts texts;
    private final LentPictures x = new LentPictures();
    private final LentPictures quiet = new LentPictures();
    private final StringBuilder told = new StringBuilder();

    private AnyCallTest(long seed) {
        random = new Random(seed);
        texts = new Texts(random);
    }

    /** Sorted, since the machine may tell them in any order. */
    private static List<Method> calls() {
        List<Method> all = new ArrayList<>();
        for (Method m : LentPictures.class.getDeclaredMethods()) {
            if (Modifier.isPublic(m.getModifiers())) {
                all.add(m);
            }
        }
        all.sort(Comparator.comparing(Method::getName));
        return all;
    }

    private int number() {
        int r = random.nextInt(10);
        return r < 7 ? random.nextInt(6) : r < 9 ? EDGES[random.nextInt(EDGES.length)] : random.nextInt();
    }

    private Object[] arguments(Method m) {
        Object[] given = new Object[m.getParameterCount()];
        for (int i = 0; i < given.length; i++) {
            if (m.getParameterTypes()[i] == boolean.class) {
                given[i] = random.nextBoolean();
            } else {
                given[i] = number();
            }
        }
        return given;
    }

    private void tell() {
        String text = random.nextInt(3) == 0 ? texts.faulty() : texts.good(5, 6);
        if (random.nextInt(8) == 0) {
            StringBuilder any = new StringBuilder();
            for (int i = random.nextInt(60); i >= 0; i--) {
                any.append((char) random.nextInt(256));
            }
            text = any.toString();
        }
        told.append(" <").append(text).append('>');
        DUE.is("read", Due.tell(x, text), Due.tell(quiet, text));
    }

    private boolean answers(Method m) throws IllegalAccessException {
        Object[] given = arguments(m);
        told.append(' ').append(m.getName()).append(Arrays.toString(given));
        try {
            Object answer = m.invoke(x, given);
            if (DOING.contains(m.getName()) && !answer.equals(m.invoke(quiet, given))) {
                DUE.is("another answer if nothing was asked:" + told, false, true);
                return false;
            }
            return true;
        } catch (InvocationTargetException e) {
            DUE.is(e.getCause() + " behind" + told, false, true);
            return false;
        }
    }

    private void run(List<Method> calls) throws IllegalAccessException {
        tell();
        boolean going = true;
        for (int i = 0; i < CALLS && going; i++) {
            Method m = calls.get(random.nextInt(calls.size()));
            boolean newText = m.getName().equals("read") || m.getName().equals("feed");
            if (newText && random.nextInt(4) == 0) {
                tell();
            } else if (!newText || random.nextInt(4) == 0) {
                going = answers(m);
            }
        }
        boolean alike = going && Picture.of(x).equals(Picture.of(quiet));
        DUE.is("asking changes nothing" + (alike ? "" : ":" + told), alike, true);
    }

    public static void main(String[] args) throws IllegalAccessException {
        int runs = args.length > 0 ? Integer.parseInt(args[0]) : RUNS;
        List<Method> calls = calls();
        for (int i = 0; i < runs; i++) {
            new AnyCallTest(77000L + i).run(calls);
        }
        DUE.end();
    }
}
