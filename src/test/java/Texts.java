import java.util.ArrayList;
import java.util.List;
import java.util.Random;

/** Makes texts by chance: good ones, and ones with something wrong in them. */
final class Texts {
    private static final String[] VARS = {"north", "walls", "kind", "value", "many", "same", "home", "which", "day"};
    private static final String[] PIECES = {";", "=", "+", "-", "*", "/", "<", "(", ")", "house", "work", "term", "trip",
        "likes", "late", "couriers", "seed", "if", "then", "else", "north", "day", "a", "b", "abcdefgh", "abcdefghi", "0",
        "10", "9999", "10000", "#", "A", "\u0000", "\u00ff", "\n", "\t", "\r", "\u000b", "00", "0007"};

    private final Random random;

    Texts(Random random) {
        this.random = random;
    }

    private int to(int n) {
        return random.nextInt(n);
    }

    private String unit(int depth) {
        int r = to(10);
        if (r < 4) {
            return VARS[to(VARS.length)];
        }
        if (r < 8 || depth >= 6) {
            return "" + (to(8) == 0 ? to(10000) : to(12));
        }
        return "(" + sum(depth + 1) + ")";
    }

    private String product(int depth) {
        StringBuilder s = new StringBuilder(unit(depth));
        while (to(4) == 0) {
            s.append(to(2) == 0 ? "*" : "/").append(unit(depth));
        }
        return s.toString();
    }

    private String sum(int depth) {
        StringBuilder s = new StringBuilder(product(depth));
        while (to(3) == 0) {
            s.append(to(2) == 0 ? "+" : " - ").append(product(depth));
        }
        return s.toString();
    }

    private String law() {
        StringBuilder s = new StringBuilder("=");
        for (int ifs = to(3) == 0 ? to(5) : 0; ifs > 0; ifs--) {
            s.append(" if ").append(sum(0)).append(" < ").append(sum(0)).append(" then ").append(sum(0)).append(" else");
        }
        return s.append(" ").append(sum(0)).append(";").toString();
    }

    /** Terms that a work can often keep, so that there are hangings and quarrels. */
    private String termSides() {
        switch (to(7)) {
            case 0:
                return "north < " + to(10);
            case 1:
                return "many < " + (1 + to(3));
            case 2:
                return "same < " + (1 + to(2));
            case 3:
                return to(5) + " - home < north";
            case 4:
                return "which < " + (1 + to(5));
            case 5:
                return "day / " + to(4) + " < " + (1 + to(50));
            default:
                return sum(0) + " < " + sum(0);
        }
    }

    /** A liking that differs much from house to house and from work to work. */
    private String fickle() {
        int a = 1 + to(9);
        int b = 2 + to(7);
        return "= (value + north * " + a + " + which * kind * " + to(30) + ") * " + (1 + to(20)) + " / " + b
            + " - (value * which / 2 * " + to(4) + ") - many * " + to(9) + " + same * " + to(20) + ";";
    }

    String good(int mostHouses, int mostWorks) {
        int houses = 1 + to(mostHouses);
        int works = to(4) == 0 ? to(mostWorks + 1) : mostWorks - to(2);
        List<String> tells = new ArrayList<>();
        boolean tight = to(4) == 0;
        int roomier = to(houses);
        for (int h = 0; h < houses; h++) {
            int needed = (works - h + houses - 1) / houses + (h == roomier ? 1 : 0);
            int walls = tight ? needed : to(4) == 0 ? to(10) : 1 + to(3);
            tells.add("house h" + (char) ('a' + h) + " " + to(10) + " " + walls + ";");
        }
        int further = to(houses);
        for (int w = 0; w < works; w++) {
            int owner = tight ? w % houses : to(houses);
            int start = tight ? (w + further) % houses : to(houses);
            tells.add("work w" + (char) ('a' + w) + " h" + (char) ('a' + owner) + " h" + (char) ('a' + start) + " "
                + to(to(2) == 0 ? 3 : 10) + " " + to(100) + ";");
        }
        for (int terms = works == 0 ? 0 : to(7); terms > 0; terms--) {
            tells.add("term w" + (char) ('a' + to(works)) + " " + termSides() + ";");
        }
        for (int n = to(2); n > 0; n--) {
            tells.add("trip " + law());
        }
        for (int n = to(3); n > 0; n--) {
            tells.add("likes " + (to(2) == 0 ? law() : fickle()));
        }
        for (int n = to(3); n > 0; n--) {
            tells.add("late " + to(101) + ";");
        }
        for (int n = to(3); n > 0; n--) {
            tells.add("couriers " + (1 + to(3)) + ";");
        }
        for (int n = to(3); n > 0; n--) {
            tells.add("seed " + (to(5) == 0 ? 9990 + to(10) : to(10000)) + ";");
        }
        return cut(String.join(to(2) == 0 ? "\n" : "", tells));
    }

    String faulty() {
        StringBuilder s = new StringBuilder(good(5, 6));
        if (to(6) == 0) {
            s = new StringBuilder(s.toString().repeat(2));
        }
        if (to(6) == 0) {
            s.append(" trip = ").append("(".repeat(5 + to(4))).append("1").append(")".repeat(5 + to(4))).append(";");
        }
        if (to(6) == 0) {
            s.append(" likes = ").append("if 1 < 2 then 3 else ".repeat(3 + to(4))).append("4;");
        }
        if (to(10) == 0) {
            s = new StringBuilder("seed 1;".repeat(120 + to(30))).append(s);
        }
        if (to(10) == 0) {
            s.append(" trip = 1").append(" + 1".repeat(190 + to(20))).append(";");
        }
        if (to(2) == 0) {
            return cut(wrongSomewhere(s.toString()));
        }
        for (int changes = to(4); changes > 0; changes--) {
            int at = to(s.length() + 1);
            switch (to(4)) {
                case 0:
                    s.insert(at, PIECES[to(PIECES.length)]);
                    break;
                case 1:
                    s.insert(at, " " + PIECES[to(PIECES.length)] + " ");
                    break;
                case 2:
                    s.delete(at, Math.min(s.length(), at + 1 + to(4)));
                    break;
                default:
                    s.setLength(Math.max(at, s.length() / 2));
                    break;
            }
        }
        return cut(s.toString());
    }

    /** Names and numbers changed for others, which no syntax forbids. */
    private String wrongSomewhere(String text) {
        StringBuilder s = new StringBuilder();
        for (String tell : text.split("(?<=;)")) {
            String t = tell;
            if (to(12) == 0) {
                t = t.replaceFirst("\\b[hw][a-f]\\b", (to(2) == 0 ? "h" : "w") + (char) ('a' + to(7)));
            }
            if (to(12) == 0) {
                t = t.replaceFirst(" [hw][a-f] (?=[0-9])", to(2) == 0 ? " x " : " wa ");
            }
            if (to(12) == 0) {
                t = t.replaceFirst("[0-9]+;$", (to(2) == 0 ? to(120) : to(12)) + ";");
            }
            if (to(12) == 0) {
                t = t.replaceFirst("(?<=[a-z] )[0-9]+ (?=[0-9])", to(12) + " ");
            }
            s.append(t);
        }
        return s.toString();
    }

    private static String cut(String s) {
        return s.length() > 1980 ? s.substring(0, 1980) : s;
    }
}
