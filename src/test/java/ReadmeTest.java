import java.io.IOException;
import java.lang.reflect.InvocationTargetException;
import java.lang.reflect.Method;
import java.nio.file.Files;
import java.nio.file.Path;
import java.util.regex.Matcher;
import java.util.regex.Pattern;

/** What README.md tells: its text is a good one, its calls answer so, and it names every call there is. */
public final class ReadmeTest {
    private static final Due DUE = new Due("ReadmeTest");
    private static final Pattern CALL = Pattern.compile("(?m)^ {4}x\\.(\\w+)\\((.*?)\\);\\s+// (-?\\d+|true|false)\\b");
    private static final Pattern TEXT_LINE = Pattern.compile("(?m)^ {4}((house|work|term|trip|likes|late) .*;)$");

    private static String textOf(String page) {
        StringBuilder text = new StringBuilder();
        Matcher m = TEXT_LINE.matcher(page);
        while (m.find()) {
            text.append(m.group(1)).append('\n');
        }
        return text.toString();
    }

    private static Method methodNamed(String name) {
        for (Method m : LentPictures.class.getMethods()) {
            if (m.getName().equals(name) && m.getDeclaringClass() == LentPictures.class) {
                return m;
            }
        }
        throw new IllegalStateException("README.md calls " + name + ", which is no call");
    }

    private static Object argument(String told) {
        if (told.equals("true") || told.equals("false")) {
            return Boolean.valueOf(told);
        }
        return told.equals("NONE") ? LentPictures.NONE : Integer.parseInt(told);
    }

    private static String answer(LentPictures x, String name, String told)
        throws IllegalAccessException, InvocationTargetException {
        String[] parts = told.isEmpty() ? new String[0] : told.split(", ");
        Object[] arguments = new Object[parts.length];
        for (int i = 0; i < parts.length; i++) {
            arguments[i] = argument(parts[i]);
        }
        return String.valueOf(methodNamed(name).invoke(x, arguments));
    }

    public static void main(String[] args) throws IOException, IllegalAccessException, InvocationTargetException {
        String page = Files.readString(Path.of("README.md"));
        LentPictures x = new LentPictures();
        DUE.is("the text of README.md", Due.tell(x, textOf(page)), 0);
        DUE.is("houses", x.count(0), 3);
        DUE.is("works", x.count(1), 3);
        DUE.is("terms", x.count(2), 2);
        Matcher m = CALL.matcher(page);
        int calls = 0;
        while (m.find()) {
            calls++;
            String got = answer(x, m.group(1), m.group(2));
            DUE.is(m.group().strip() + " answered " + got, got.equals(m.group(3)), true);
        }
        DUE.is("calls with an answer", calls, 18);
        for (Method method : LentPictures.class.getDeclaredMethods()) {
            boolean asked = (method.getModifiers() & java.lang.reflect.Modifier.PUBLIC) != 0;
            DUE.is("README.md names " + method.getName(), !asked || page.contains("`" + method.getName() + "`"), true);
        }
        DUE.end();
    }
}
