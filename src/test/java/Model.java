import java.util.ArrayDeque;
import java.util.ArrayList;
import java.util.Arrays;
import java.util.Deque;
import java.util.HashMap;
import java.util.HashSet;
import java.util.List;
import java.util.Map;
import java.util.Set;

/**
 * The document once more, as literally as it goes and as slowly as need be, to compare the class
 * with. It shares no code and as few ways of working with the class as could be.
 */
final class Model {
    private static final int NONE = -1;
    private static final int OTHER = -2;
    private static final List<String> WORDS = List.of("house", "work", "term", "trip", "likes", "late", "couriers",
        "seed", "if", "then", "else", "north", "walls", "kind", "value", "many", "same", "home", "which", "day");
    private static final Set<String> VARS = Set.of("north", "walls", "kind", "value", "many", "same", "home", "which",
        "day");

    private record Token(String sort, String text, int place) { }

    private record House(String name, int north, int walls) { }

    private record Work(String name, int owner, int start, int kind, int value) { }

    private record Term(int work, List<Token> less, List<Token> more) { }

    private record Branch(List<Token> less, List<Token> more, List<Token> then) { }

    private record Law(List<Branch> branches, List<Token> last) { }

    private record Listed(int crate, int by, int is) { }

    private static final class DividedByZero extends Exception {
        private static final long serialVersionUID = 1;
    }

    private static final class Now {
        int day;
        int late;
        int trips;
        Set<Integer> lifted = new HashSet<>();
        Map<Integer, Integer> in = new HashMap<>();
        Map<Integer, Integer> to = new HashMap<>();
        Map<Integer, Integer> when = new HashMap<>();
        List<List<Integer>> sent = new ArrayList<>();

        Now copy() {
            Now n = new Now();
            n.day = day;
            n.late = late;
            n.trips = trips;
            n.lifted.addAll(lifted);
            n.in.putAll(in);
            n.to.putAll(to);
            n.when.putAll(when);
            n.sent.addAll(sent);
            return n;
        }

        void go(int newDay) {
            day = newDay;
            for (Integer w : new ArrayList<>(to.keySet())) {
                if (when.get(w) <= day) {
                    in.put(w, to.remove(w));
                    when.remove(w);
                }
            }
        }
    }

    private String tape = "";
    private int place = NONE;
    private List<House> houses = new ArrayList<>();
    private List<Work> works = new ArrayList<>();
    private List<Term> terms = new ArrayList<>();
    private Law tripLaw = new Law(List.of(), List.of(new Token("INT", "3", 0)));
    private Law likesLaw = new Law(List.of(), List.of(new Token("value", "value", 0)));
    private int late = 0;
    private int couriers = 1;
    private int seed = 0;
    private Now now = new Now();
    private Deque<Now> past = new ArrayDeque<>();
    private final Map<Integer, Now> slots = new HashMap<>();
    private final List<Listed> lists = new ArrayList<>();

    // ---- the tape

    int feed(int a, int b, int c, int d, int e) {
        if (tape.length() + 20 > 2000) {
            return NONE;
        }
        for (int x : new int[] {a, b, c, d, e}) {
            tape += "" + (char) (x >>> 24) + (char) (x >>> 16 & 255) + (char) (x >>> 8 & 255) + (char) (x & 255);
        }
        return tape.length();
    }

    int back(int n) {
        if (n < 0 || n > tape.length()) {
            return NONE;
        }
        tape = tape.substring(0, tape.length() - n);
        return tape.length();
    }

    int place() {
        return place;
    }

    private static List<Token> tokens(String s) {
        List<Token> all = new ArrayList<>();
        int i = 0;
        while (i < s.length()) {
            String rest = s.substring(i);
            String run = rest.replaceFirst("(?s)^([a-z]+|[0-9]+|.).*$", "$1");
            if (run.matches("[a-z]+")) {
                all.add(new Token(WORDS.contains(run) ? run : run.length() <= 8 ? "NAME" : "BAD", run, i));
            } else if (run.matches("[0-9]+")) {
                all.add(new Token(run.length() <= 4 ? "INT" : "BAD", run, i));
            } else if (";=+-*/<()".contains(run)) {
                all.add(new Token(run, run, i));
            } else if (!"\t\n\r ".contains(run)) {
                all.add(new Token("BAD", run, i));
            }
            i += run.length();
        }
        return all;
    }

    /** What may stand in place of the first symbol of a stack; null: it is a token's sort. */
    private static String[] expansions(String symbol) {
        return switch (symbol) {
            case "TEXT" -> new String[] {"", "TELL TEXT"};
            case "TELL" -> new String[] {"house NAME INT INT ;", "work NAME NAME NAME INT INT ;", "term NAME E < E ;",
                "trip LAW ;", "likes LAW ;", "late INT ;", "couriers INT ;", "seed INT ;"};
            case "LAW" -> new String[] {"= IFS E"};
            case "IFS" -> new String[] {"", "if E < E then E else IFS"};
            case "E" -> new String[] {"PART PARTS"};
            case "PARTS" -> new String[] {"", "+ PART PARTS", "- PART PARTS"};
            case "PART" -> new String[] {"UNIT UNITS"};
            case "UNITS" -> new String[] {"", "* UNIT UNITS", "/ UNIT UNITS"};
            case "UNIT" -> new String[] {"INT", "VAR", "( E )"};
            case "VAR" -> VARS.toArray(new String[0]);
            default -> null;
        };
    }

    /** All stacks that are left when a token has come; with "" as the token: whether the text may end. */
    private static Set<String> after(Set<String> stacks, String sort) {
        Set<String> out = new HashSet<>();
        Deque<String> todo = new ArrayDeque<>(stacks);
        Set<String> seen = new HashSet<>(stacks);
        while (!todo.isEmpty()) {
            String stack = todo.pop();
            if (stack.isEmpty()) {
                if (sort.isEmpty()) {
                    out.add("");
                }
                continue;
            }
            int cut = stack.indexOf(' ');
            String head = cut < 0 ? stack : stack.substring(0, cut);
            String tail = cut < 0 ? "" : stack.substring(cut + 1);
            String[] ways = expansions(head);
            if (ways == null) {
                if (head.equals(sort)) {
                    out.add(tail);
                }
                continue;
            }
            for (String way : ways) {
                String next = way.isEmpty() ? tail : tail.isEmpty() ? way : way + " " + tail;
                if (seen.add(next)) {
                    todo.push(next);
                }
            }
        }
        return out;
    }

    private static int syntaxPlace(List<Token> tokens, int length) {
        Set<String> stacks = Set.of("TEXT");
        for (Token t : tokens) {
            stacks = after(stacks, t.sort());
            if (stacks.isEmpty()) {
                return t.place();
            }
        }
        return after(stacks, "").isEmpty() ? length : Integer.MAX_VALUE;
    }

    private static int roomPlace(List<Token> tokens, int before) {
        Map<String, Integer> told = new HashMap<>();
        int ifs = 0;
        int open = 0;
        int number = 0;
        for (Token t : tokens) {
            if (t.place() >= before) {
                break;
            }
            number++;
            if (number == 401) {
                return t.place();
            }
            switch (t.sort()) {
                case "house", "work", "term" -> {
                    int n = told.merge(t.sort(), 1, Integer::sum);
                    if (n > (t.sort().equals("house") ? 5 : 6)) {
                        return t.place();
                    }
                }
                case "if" -> {
                    ifs++;
                    if (ifs == 5) {
                        return t.place();
                    }
                }
                case "(" -> {
                    open++;
                    if (open == 7) {
                        return t.place();
                    }
                }
                case ")" -> open--;
                case ";" -> ifs = 0;
                default -> { }
            }
        }
        return Integer.MAX_VALUE;
    }

    private int fault(int number, int where) {
        place = where;
        return number;
    }

    int read() {
        String text = tape;
        tape = "";
        place = NONE;
        List<Token> tokens = tokens(text);
        int syntax = syntaxPlace(tokens, text.length());
        int room = roomPlace(tokens, syntax);
        if (syntax != Integer.MAX_VALUE || room != Integer.MAX_VALUE) {
            return syntax <= room ? fault(1, syntax) : fault(2, room);
        }
        return take(tokens);
    }

    private int take(List<Token> tokens) {
        Model m = new Model();
        List<Token> tell = new ArrayList<>();
        for (Token t : tokens) {
            if (!t.sort().equals(";")) {
                tell.add(t);
                continue;
            }
            int[] f = m.tell(tell);
            if (f != null) {
                return fault(f[0], f[1]);
            }
            tell = new ArrayList<>();
        }
        houses = m.houses;
        works = m.works;
        terms = m.terms;
        tripLaw = m.tripLaw;
        likesLaw = m.likesLaw;
        late = m.late;
        couriers = m.couriers;
        seed = m.seed;
        now = new Now();
        for (int w = 0; w < works.size(); w++) {
            now.in.put(w, works.get(w).start());
        }
        past.clear();
        slots.clear();
        lists.clear();
        return 0;
    }

    private int houseNamed(String name) {
        for (int i = 0; i < houses.size(); i++) {
            if (houses.get(i).name().equals(name)) {
                return i;
            }
        }
        return NONE;
    }

    private int workNamed(String name) {
        for (int i = 0; i < works.size(); i++) {
            if (works.get(i).name().equals(name)) {
                return i;
            }
        }
        return NONE;
    }

    private boolean known(String name) {
        return houseNamed(name) != NONE || workNamed(name) != NONE;
    }

    private static int[] range(Token t, int low, int high) {
        int n = Integer.parseInt(t.text());
        return n < low || n > high ? new int[] {5, t.place()} : null;
    }

    private static int[] first(int[]... faults) {
        return Arrays.stream(faults).filter(f -> f != null).min((f, g) -> f[1] != g[1] ? f[1] - g[1] : f[0] - g[0])
            .orElse(null);
    }

    private int[] tell(List<Token> t) {
        String sort = t.get(0).sort();
        int[] f = null;
        switch (sort) {
            case "house" -> {
                f = first(known(t.get(1).text()) ? new int[] {3, t.get(1).place()} : null, range(t.get(2), 0, 9),
                    range(t.get(3), 0, 9));
                houses.add(new House(t.get(1).text(), number(t.get(2)), number(t.get(3))));
            }
            case "work" -> {
                int owner = houseNamed(t.get(2).text());
                int start = houseNamed(t.get(3).text());
                f = first(known(t.get(1).text()) ? new int[] {3, t.get(1).place()} : null,
                    owner == NONE ? new int[] {4, t.get(2).place()} : null,
                    start == NONE ? new int[] {4, t.get(3).place()} : null, range(t.get(4), 0, 9),
                    range(t.get(5), 0, 99));
                works.add(new Work(t.get(1).text(), owner, start, number(t.get(4)), number(t.get(5))));
            }
            case "term" -> {
                int work = workNamed(t.get(1).text());
                f = work == NONE ? new int[] {4, t.get(1).place()} : null;
                int less = find(t, "<");
                terms.add(new Term(work, t.subList(2, less), t.subList(less + 1, t.size())));
            }
            case "trip" -> tripLaw = law(t.subList(2, t.size()));
            case "likes" -> likesLaw = law(t.subList(2, t.size()));
            case "late" -> {
                f = range(t.get(1), 0, 100);
                late = number(t.get(1));
            }
            case "couriers" -> {
                f = range(t.get(1), 1, 3);
                couriers = number(t.get(1));
            }
            default -> seed = number(t.get(1));
        }
        return f;
    }

    private static int number(Token t) {
        return Integer.parseInt(t.text());
    }

    private static int find(List<Token> t, String sort) {
        for (int i = 0; i < t.size(); i++) {
            if (t.get(i).sort().equals(sort)) {
                return i;
            }
        }
        return NONE;
    }

    private static Law law(List<Token> all) {
        List<Branch> branches = new ArrayList<>();
        List<Token> t = all;
        while (t.get(0).sort().equals("if")) {
            int less = find(t, "<");
            int then = find(t, "then");
            int other = find(t, "else");
            branches.add(new Branch(t.subList(1, less), t.subList(less + 1, then), t.subList(then + 1, other)));
            t = t.subList(other + 1, t.size());
        }
        return new Law(branches, t);
    }

    // ---- sums

    private static int lastOutside(List<Token> e, String a, String b) {
        int depth = 0;
        for (int i = e.size() - 1; i >= 0; i--) {
            String s = e.get(i).sort();
            depth += s.equals(")") ? 1 : s.equals("(") ? -1 : 0;
            if (depth == 0 && (s.equals(a) || s.equals(b))) {
                return i;
            }
        }
        return NONE;
    }

    private static int value(List<Token> e, Map<String, Integer> vars) throws DividedByZero {
        int cut = lastOutside(e, "+", "-");
        if (cut == NONE) {
            cut = lastOutside(e, "*", "/");
        }
        if (cut != NONE) {
            long left = value(e.subList(0, cut), vars);
            long right = value(e.subList(cut + 1, e.size()), vars);
            switch (e.get(cut).sort()) {
                case "+":
                    return (int) (left + right);
                case "-":
                    return (int) (left - right);
                case "*":
                    return (int) (left * right);
                default:
                    if (right == 0) {
                        throw new DividedByZero();
                    }
                    return (int) (left / right);
            }
        }
        if (e.get(0).sort().equals("(")) {
            return value(e.subList(1, e.size() - 1), vars);
        }
        return e.get(0).sort().equals("INT") ? number(e.get(0)) : vars.get(e.get(0).sort());
    }

    private static int of(Law law, Map<String, Integer> vars) {
        try {
            for (Branch b : law.branches()) {
                if (value(b.less(), vars) < value(b.more(), vars)) {
                    return value(b.then(), vars);
                }
            }
            return value(law.last(), vars);
        } catch (DividedByZero e) {
            return 0;
        }
    }

    private static int orZero(List<Token> e, Map<String, Integer> vars) {
        try {
            return value(e, vars);
        } catch (DividedByZero d) {
            return 0;
        }
    }

    private Map<String, Integer> vars(int w, int h, Set<Integer> others, int day) {
        Map<String, Integer> v = new HashMap<>();
        v.put("north", houses.get(h).north());
        v.put("walls", houses.get(h).walls());
        v.put("which", h);
        v.put("kind", works.get(w).kind());
        v.put("value", works.get(w).value());
        v.put("many", others.size());
        v.put("same", (int) others.stream().filter(o -> works.get(o).kind() == works.get(w).kind()).count());
        v.put("home", works.get(w).owner() == h ? 1 : 0);
        v.put("day", day);
        return v;
    }

    private static Set<Integer> others(Map<Integer, Integer> in, int h, int... without) {
        Set<Integer> o = new HashSet<>();
        in.forEach((w, at) -> {
            if (at == h) {
                o.add(w);
            }
        });
        for (int w : without) {
            o.remove(w);
        }
        return o;
    }

    private boolean termHolds(int t, int h, Map<Integer, Integer> in, int day) {
        Term term = terms.get(t);
        Map<String, Integer> v = vars(term.work(), h, others(in, h, term.work()), day);
        return orZero(term.less(), v) < orZero(term.more(), v);
    }

    private boolean mayHang(int w, int h, Map<Integer, Integer> in, Set<Integer> standing, int day) {
        if (others(in, h, w).size() >= houses.get(h).walls()) {
            return false;
        }
        for (int t : standing) {
            if (terms.get(t).work() == w && !termHolds(t, h, in, day)) {
                return false;
            }
        }
        return true;
    }

    private Set<Integer> standing() {
        Set<Integer> s = new HashSet<>();
        for (int t = 0; t < terms.size(); t++) {
            if (!now.lifted.contains(t)) {
                s.add(t);
            }
        }
        return s;
    }

    private int likesOf(int h, int w, Set<Integer> others) {
        return Math.min(99, Math.max(0, of(likesLaw, vars(w, h, others, now.day))));
    }

    private int tripOf(int w, int h) {
        return Math.min(99, Math.max(1, of(tripLaw, vars(w, h, Set.of(), now.day))));
    }

    private static int lot(int n, int seed, int which) {
        int h = seed;
        for (int it : new int[] {83, which}) {
            h = (h ^ it) * 1103515245 + 12345;
            h = h ^ (h >>> 15);
        }
        return (h >>> 1) % n;
    }

    // ---- asking

    private boolean isHouse(int h) {
        return h >= 0 && h < houses.size();
    }

    private boolean isWork(int w) {
        return w >= 0 && w < works.size();
    }

    private boolean isTerm(int t) {
        return t >= 0 && t < terms.size();
    }

    private static int bits(Iterable<Integer> of) {
        int b = 0;
        for (int i : of) {
            b |= 1 << i;
        }
        return b;
    }

    int house(int h, int what) {
        if (!isHouse(h) || what < 0 || what > 4) {
            return NONE;
        }
        Set<Integer> there = others(now.in, h);
        if (what == 0) {
            return houses.get(h).north();
        }
        if (what == 1) {
            return houses.get(h).walls();
        }
        if (what == 2) {
            return bits(there);
        }
        int sum = 0;
        for (int w = 0; w < works.size(); w++) {
            if (what == 3 && works.get(w).owner() == h) {
                sum += 1 << w;
            }
            if (what == 4 && there.contains(w)) {
                sum += likesOf(h, w, others(now.in, h, w));
            }
        }
        return sum;
    }

    int work(int w, int what) {
        if (!isWork(w)) {
            return NONE;
        }
        switch (what) {
            case 0:
                return works.get(w).owner();
            case 1:
                return now.in.getOrDefault(w, OTHER);
            case 2:
                return works.get(w).kind();
            case 3:
                return works.get(w).value();
            case 4:
                return now.to.getOrDefault(w, OTHER);
            case 5:
                return now.when.getOrDefault(w, OTHER);
            case 6:
                return (int) now.sent.stream().filter(s -> s.get(0) == w).count();
            case 7:
                Set<Integer> s = standing();
                s.removeIf(t -> terms.get(t).work() != w);
                return bits(s);
            default:
                return NONE;
        }
    }

    int may(int w, int h) {
        return !isWork(w) || !isHouse(h) ? NONE : mayHang(w, h, now.in, standing(), now.day) ? 1 : 0;
    }

    int holds(int t, int h) {
        return !isTerm(t) || !isHouse(h) ? NONE : termHolds(t, h, now.in, now.day) ? 1 : 0;
    }

    int likes(int h, int w) {
        return !isWork(w) || !isHouse(h) ? NONE : likesOf(h, w, others(now.in, h, w));
    }

    int trip(int w, int h) {
        return !isWork(w) || !isHouse(h) ? NONE : tripOf(w, h);
    }

    private void doing() {
        past.push(now.copy());
        if (past.size() > 40) {
            past.removeLast();
        }
    }

    int send(int w, int h) {
        if (!isWork(w) || !isHouse(h)) {
            return NONE;
        }
        if (!now.in.containsKey(w) || now.in.get(w) == h) {
            return OTHER;
        }
        doing();
        boolean isLate = lot(100, seed, 8 * now.trips) < late;
        int day = now.day + tripOf(w, h) + (isLate ? 5 : 0);
        now.sent.add(List.of(w, now.in.remove(w), h));
        now.to.put(w, h);
        now.when.put(w, day);
        now.trips++;
        now.late += isLate ? 1 : 0;
        return day;
    }

    boolean lift(int t, boolean lifted) {
        if (!isTerm(t) || now.lifted.contains(t) == lifted) {
            return false;
        }
        doing();
        if (lifted) {
            now.lifted.add(t);
        } else {
            now.lifted.remove(t);
        }
        return true;
    }

    int days(int n) {
        if (n < 0 || n > 99) {
            return NONE;
        }
        if (n > 0) {
            doing();
            for (int i = 0; i < n; i++) {
                now.go(now.day + 1);
            }
        }
        return now.day;
    }

    boolean undo() {
        if (past.isEmpty()) {
            return false;
        }
        now = past.pop();
        return true;
    }

    private boolean isWell(Now then) {
        return then.in.entrySet().stream()
            .allMatch(e -> mayHang(e.getKey(), e.getValue(), then.in, standing(), then.day));
    }

    boolean well() {
        return isWell(now);
    }

    int bad() {
        Now then = now.copy();
        for (int i = 0; i <= 200; i++) {
            if (!isWell(then)) {
                return i;
            }
            then.go(then.day + 1);
        }
        return OTHER;
    }

    // ---- what would be

    private List<Map<Integer, Integer>> rows() {
        List<Map<Integer, Integer>> rows = new ArrayList<>();
        int all = (int) Math.round(Math.pow(houses.size(), works.size()));
        for (int n = 0; n < all; n++) {
            Map<Integer, Integer> row = new HashMap<>();
            int rest = n;
            for (int w = works.size() - 1; w >= 0; w--) {
                row.put(w, rest % houses.size());
                rest /= houses.size();
            }
            rows.add(row);
        }
        return rows;
    }

    private boolean roomForAll(Map<Integer, Integer> row) {
        return row.entrySet().stream().allMatch(e -> others(row, e.getValue(), e.getKey()).size()
            < houses.get(e.getValue()).walls());
    }

    private boolean isHanging(Map<Integer, Integer> row, Set<Integer> standing) {
        return row.entrySet().stream().allMatch(e -> mayHang(e.getKey(), e.getValue(), row, standing, now.day));
    }

    int hangings() {
        return (int) rows().stream().filter(r -> isHanging(r, standing())).count();
    }

    int nearest(int w) {
        if (w != NONE && !isWork(w)) {
            return NONE;
        }
        int fewest = Integer.MAX_VALUE;
        Map<Integer, Integer> best = null;
        for (Map<Integer, Integer> row : rows()) {
            int away = 0;
            for (int i = 0; i < works.size(); i++) {
                away += now.in.getOrDefault(i, NONE).equals(row.get(i)) ? 0 : 1;
            }
            if (away < fewest && isHanging(row, standing())) {
                fewest = away;
                best = row;
            }
        }
        return best == null ? OTHER : w == NONE ? fewest : best.get(w);
    }

    int quarrel(int what) {
        if (what != 0 && what != 1) {
            return NONE;
        }
        int all = bits(standing());
        List<Integer> breaks = new ArrayList<>();
        for (Map<Integer, Integer> row : rows()) {
            if (roomForAll(row)) {
                Set<Integer> broken = standing();
                broken.removeIf(t -> termHolds(t, row.get(terms.get(t).work()), row, now.day));
                breaks.add(bits(broken));
            }
        }
        for (int size = 0; size <= terms.size(); size++) {
            for (int set = 0; set < 64; set++) {
                int s = set;
                if ((s & ~all) == 0 && Integer.bitCount(s) == size && breaks.stream().noneMatch(b -> (b & s) == 0)) {
                    return what == 0 ? size : s;
                }
            }
        }
        return OTHER;
    }

    private Map<Integer, Integer> goals() {
        Map<Integer, Integer> row = new HashMap<>(now.in);
        row.putAll(now.to);
        return row;
    }

    int home(boolean kept) {
        Map<Integer, Integer> goal = new HashMap<>();
        for (int w = 0; w < works.size(); w++) {
            goal.put(w, works.get(w).owner());
        }
        Set<Map<Integer, Integer>> seen = new HashSet<>();
        List<Map<Integer, Integer>> edge = List.of(goals());
        seen.addAll(edge);
        for (int trips = 0; !edge.isEmpty(); trips++) {
            List<Map<Integer, Integer>> next = new ArrayList<>();
            for (Map<Integer, Integer> row : edge) {
                if (row.equals(goal)) {
                    return trips;
                }
                for (int w = 0; w < works.size(); w++) {
                    for (int h = 0; h < houses.size(); h++) {
                        Map<Integer, Integer> n = new HashMap<>(row);
                        n.put(w, h);
                        if (seen.add(n) && (kept ? isHanging(n, standing()) : roomForAll(n))) {
                            next.add(n);
                        }
                    }
                }
            }
            edge = next;
        }
        return OTHER;
    }

    int swaps(int what) {
        if (what < -1 || what > 2) {
            return NONE;
        }
        List<int[]> all = new ArrayList<>();
        for (int i : now.in.keySet()) {
            for (int j : now.in.keySet()) {
                int a = now.in.get(i);
                int b = now.in.get(j);
                if (i < j && a != b) {
                    int gainA = likesOf(a, j, others(now.in, a, i)) - likesOf(a, i, others(now.in, a, i));
                    int gainB = likesOf(b, i, others(now.in, b, j)) - likesOf(b, j, others(now.in, b, j));
                    if (gainA > 0 && gainB > 0) {
                        all.add(new int[] {i, j, gainA + gainB});
                    }
                }
            }
        }
        if (what == -1) {
            return all.size();
        }
        all.sort((x, y) -> x[2] != y[2] ? y[2] - x[2] : x[0] != y[0] ? x[0] - y[0] : x[1] - y[1]);
        return all.isEmpty() ? OTHER : all.get(0)[what];
    }

    private int likesOfAll(int h, int set) {
        int sum = 0;
        for (Map.Entry<Integer, Integer> e : goals().entrySet()) {
            int owner = works.get(e.getKey()).owner();
            int at = (set >> e.getValue() & 1) == 1 ? owner : e.getValue();
            if (at == h) {
                sum += likesOf(h, e.getKey(), Set.of());
            }
        }
        return sum;
    }

    int backs(int i) {
        List<Integer> rests = new ArrayList<>();
        for (int set = 0; set < 1 << houses.size(); set++) {
            boolean rest = true;
            for (int h = 0; h < houses.size(); h++) {
                rest &= likesOfAll(h, set ^ 1 << h) <= likesOfAll(h, set);
            }
            if (rest) {
                rests.add(set);
            }
        }
        return i == -1 ? rests.size() : i < 0 || i >= rests.size() ? NONE : rests.get(i);
    }

    int soonest() {
        List<Integer> trips = new ArrayList<>();
        goals().forEach((w, h) -> {
            if (works.get(w).owner() != h) {
                trips.add(tripOf(w, works.get(w).owner()));
            }
        });
        int best = Integer.MAX_VALUE;
        for (int n = 0; n < 729; n++) {
            int[] busy = new int[3];
            int rest = n;
            for (int days : trips) {
                busy[rest % 3 % couriers] += days;
                rest /= 3;
            }
            best = Math.min(best, Arrays.stream(busy).max().getAsInt());
        }
        return best;
    }

    int then(int w, int n) {
        if (!isWork(w) || n < 0 || n > 200) {
            return NONE;
        }
        Now then = now.copy();
        then.go(now.day + n);
        return then.in.getOrDefault(w, OTHER);
    }

    int times(int w, int h, int n, int s) {
        if (!isWork(w) || !isHouse(h) || n < 0 || n > 200 || s < 1 || s > 20) {
            return NONE;
        }
        if (!now.in.containsKey(w) || now.in.get(w) == h) {
            return OTHER;
        }
        int there = 0;
        for (int i = seed; i < seed + s; i++) {
            there += tripOf(w, h) + (lot(100, i, 8 * now.trips) < late ? 5 : 0) <= n ? 1 : 0;
        }
        return there;
    }

    int owes(int h, int other) {
        if (!isHouse(h) || !isHouse(other) || h == other) {
            return NONE;
        }
        Set<Integer> owed = others(goals(), h);
        owed.removeIf(w -> works.get(w).owner() != other);
        return bits(owed);
    }

    int richest(boolean all) {
        int best = OTHER;
        int most = OTHER;
        for (int h = houses.size() - 1; h >= 0; h--) {
            int sum = others(now.in, h).stream().mapToInt(w -> works.get(w).value()).sum();
            if (sum >= most) {
                best = h;
                most = sum;
            }
        }
        return all ? most : best;
    }

    int lent(int h, int other) {
        if (!isHouse(h) || !isHouse(other) || h == other) {
            return NONE;
        }
        return (int) now.sent.stream().filter(s -> s.get(1) == h && s.get(2) == other).count();
    }

    // ---- crates

    int list(int crate, int by, int is) {
        int below = by == 0 ? 10 : by == 1 ? 100 : by == 2 ? houses.size() : 0;
        if (lists.size() == 20 || !isWork(crate) || is < 0 || is >= below) {
            return NONE;
        }
        lists.add(new Listed(crate, by, is));
        return lists.size() - 1;
    }

    int forget() {
        int n = lists.size();
        lists.clear();
        return n;
    }

    private static List<List<Integer>> permutations(int n) {
        if (n == 0) {
            return List.of(List.of());
        }
        List<List<Integer>> all = new ArrayList<>();
        for (List<Integer> p : permutations(n - 1)) {
            for (int i = 0; i <= p.size(); i++) {
                List<Integer> q = new ArrayList<>(p);
                q.add(i, n - 1);
                all.add(q);
            }
        }
        return all;
    }

    private int wrong(List<Integer> way, int k) {
        return (int) lists.subList(0, k).stream().filter(l -> {
            Work w = works.get(way.get(l.crate()));
            return (l.by() == 0 ? w.kind() : l.by() == 1 ? w.value() : w.owner()) != l.is();
        }).count();
    }

    int fits(int k, int w) {
        if (k < 0 || k > lists.size() || w < 0 || w > 20) {
            return NONE;
        }
        return (int) permutations(works.size()).stream().filter(p -> wrong(p, k) == w).count();
    }

    int least(int k) {
        if (k < 0 || k > lists.size()) {
            return NONE;
        }
        return permutations(works.size()).stream().mapToInt(p -> wrong(p, k)).min().getAsInt();
    }

    int sure(int k, int crate) {
        if (k < 0 || k > lists.size() || !isWork(crate)) {
            return NONE;
        }
        int least = least(k);
        int[] had = permutations(works.size()).stream().filter(p -> wrong(p, k) == least).mapToInt(p -> p.get(crate))
            .distinct().toArray();
        return had.length == 1 ? had[0] : OTHER;
    }

    // ---- held

    boolean hold(int slot) {
        if (slot < 0 || slot > 2) {
            return false;
        }
        slots.put(slot, now.copy());
        return true;
    }

    boolean restore(int slot) {
        if (!slots.containsKey(slot)) {
            return false;
        }
        now = slots.get(slot).copy();
        past.clear();
        return true;
    }

    int count(int what) {
        switch (what) {
            case 0:
                return houses.size();
            case 1:
                return works.size();
            case 2:
                return terms.size();
            case 3:
                return now.day;
            case 4:
                return now.sent.size();
            case 5:
                return bits(now.to.keySet());
            case 6:
                Set<Integer> at = new HashSet<>(now.in.keySet());
                at.removeIf(w -> works.get(w).owner() != now.in.get(w));
                return bits(at);
            case 7:
                return bits(standing());
            case 8:
                return tape.length();
            case 9:
                return past.size();
            case 10:
                return lists.size();
            case 11:
                return slots.size();
            case 12:
                return now.late;
            default:
                return NONE;
        }
    }
}
