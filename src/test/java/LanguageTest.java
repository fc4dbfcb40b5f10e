import java.lang.reflect.Constructor;
import java.lang.reflect.Field;
import java.lang.reflect.Method;
import java.lang.reflect.Modifier;
import java.nio.file.Files;
import java.nio.file.Path;
import java.util.ArrayList;
import java.util.List;
import java.util.Set;
import java.util.TreeSet;
import java.util.regex.Matcher;
import java.util.regex.Pattern;

/** The public face, and those rules of ../shared/LANGUAGE.md that can be seen from outside. */
public final class LanguageTest {
    private static final Due DUE = new Due("LanguageTest");
    private static final Path SOURCE = Path.of("src/main/java/LentPictures.java");
    private static final Path DOCUMENT = Path.of("../shared/DOC.md");
    private static final String FACE = """
        public int feed(int a, int b, int c, int d, int e);
        public int back(int n);
        public int read();
        public int place();
        public int house(int house, int what);
        public int work(int work, int what);
        public int may(int work, int house);
        public int holds(int term, int house);
        public int likes(int house, int work);
        public int trip(int work, int house);
        public int send(int work, int house);
        public boolean lift(int term, boolean lifted);
        public int days(int n);
        public boolean undo();
        public boolean well();
        public int bad();
        public int hangings();
        public int nearest(int work);
        public int quarrel(int what);
        public int home(boolean kept);
        public int swaps(int what);
        public int backs(int i);
        public int soonest();
        public int then(int work, int n);
        public int times(int work, int house, int n, int s);
        public int owes(int house, int other);
        public int richest(boolean all);
        public int lent(int house, int other);
        public int list(int crate, int by, int is);
        public int forget();
        public int fits(int k, int w);
        public int least(int k);
        public int sure(int k, int crate);
        public boolean hold(int slot);
        public boolean restore(int slot);
        public int count(int what);
        """;

    private static String shown(Method m) {
        List<String> types = new ArrayList<>();
        for (Class<?> type : m.getParameterTypes()) {
            types.add(type.getName());
        }
        return Modifier.toString(m.getModifiers()) + " " + m.getReturnType().getName() + " " + m.getName() + "("
            + String.join(", ", types) + ");";
    }

    private static Set<String> publicNames() {
        Set<String> names = new TreeSet<>();
        for (String line : FACE.strip().split("\n")) {
            names.add(line.replaceAll("\\(.*", "").replaceAll(".* ", ""));
        }
        return names;
    }

    /** The face that this test has is the one that the document has, line by line. */
    private static void faceOfDocument() throws Exception {
        String page = Files.readString(DOCUMENT);
        Matcher m = Pattern.compile("(?s)```java\n(.*?)```").matcher(page);
        DUE.is("the document has a face", m.find(), true);
        StringBuilder want = new StringBuilder("public final class LentPictures {\n");
        want.append("    public static final int NONE = -1;\n    public LentPictures();\n");
        for (String line : FACE.strip().split("\n")) {
            want.append("    ").append(line.strip()).append('\n');
        }
        DUE.is("the face of the document", m.group(1).equals(want.append("}\n").toString()), true);
    }

    private static void face() {
        Set<String> want = new TreeSet<>();
        for (String line : FACE.strip().split("\n")) {
            want.add(line.strip().replaceAll("(int|boolean) [a-z]+(?=[,)])", "$1"));
        }
        Set<String> got = new TreeSet<>();
        for (Method m : LentPictures.class.getDeclaredMethods()) {
            if (!Modifier.isPrivate(m.getModifiers())) {
                got.add(shown(m));
            }
        }
        DUE.is("methods of the face " + got, got.equals(want), true);
        DUE.is("public and final", LentPictures.class.getModifiers(), Modifier.PUBLIC | Modifier.FINAL);
        Constructor<?>[] made = LentPictures.class.getDeclaredConstructors();
        DUE.is("constructors", made.length, 1);
        DUE.is("constructor is public, without arguments", Modifier.isPublic(made[0].getModifiers())
            && made[0].getParameterCount() == 0, true);
        DUE.is("NONE", LentPictures.NONE, -1);
        for (Field f : LentPictures.class.getDeclaredFields()) {
            DUE.is("private field " + f.getName(), Modifier.isPrivate(f.getModifiers()) || f.getName().equals("NONE"), true);
        }
    }

    private static void classesInside() {
        Class<?>[] inside = LentPictures.class.getDeclaredClasses();
        DUE.is("at most twelve classes", inside.length <= 11, true);
        Set<String> names = publicNames();
        for (Class<?> c : inside) {
            DUE.is("static " + c.getName(), Modifier.isStatic(c.getModifiers()), true);
            int fields = 0;
            for (Field f : c.getDeclaredFields()) {
                boolean constant = Modifier.isStatic(f.getModifiers());
                DUE.is("final static " + f.getName(), !constant || Modifier.isFinal(f.getModifiers()), true);
                fields += constant ? 0 : 1;
            }
            DUE.is("fields of " + c.getName(), fields <= 20, true);
            methods(c, names);
        }
        methods(LentPictures.class, Set.of());
    }

    private static void methods(Class<?> c, Set<String> taken) {
        for (Method m : c.getDeclaredMethods()) {
            DUE.is("parameters of " + m.getName(), m.getParameterCount() <= 7, true);
            DUE.is("a name of the face: " + m.getName(), taken.contains(m.getName()), false);
        }
    }

    private static void absent(String code, String regex) {
        Matcher m = Pattern.compile(regex).matcher(code);
        DUE.is("'" + (m.find() ? m.group() : regex) + "' is not allowed", m.reset().find(), false);
    }

    private static void source() throws Exception {
        String text = Files.readString(SOURCE);
        String code = text.replaceAll("(?s)/\\*.*?\\*/", "").replaceAll("//[^\n]*", "").replaceAll("\"[^\"\n]*\"", "\"\"");
        for (String word : List.of("throw", "throws", "try", "catch", "synchronized", "assert", "protected", "double",
            "float", "package", "volatile", "transient", "native", "System\\.(?!arraycopy)", "Exact", "Random", "Object",
            "hashCode", "toString", "import (?!java\\.util\\.Arrays;)")) {
            absent(code, "\\b" + word + "\\b".repeat(word.matches("\\w+") ? 1 : 0));
        }
        absent(code, "->|::|\\[\\]\\[\\]\\[\\]");
        absent(code, "static \\{");
        absent(text, "[^\\n -~]");
        Matcher m = Pattern.compile("(?m)^( +)[\\w\\[\\] ]+\\([^;{]*\\) \\{\\n(.*\\n)*?\\1\\}\\n").matcher(text);
        int longest = 0;
        int methods = 0;
        while (m.find()) {
            methods++;
            longest = Math.max(longest, m.group().split("\n").length);
        }
        DUE.is("methods found", methods > 100, true);
        DUE.is("the longest method has " + longest + " lines", longest <= 60, true);
    }

    public static void main(String[] args) throws Exception {
        faceOfDocument();
        face();
        classesInside();
        source();
        DUE.end();
    }
}
