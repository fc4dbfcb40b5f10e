import java.util.ArrayList;
import java.util.List;
import java.util.Set;

/** Sentences of "Terms" ahead of II (texts, their tokens and faults), and of promises 1 to 5. */
final class TextSentences {
    private static final String TERMS = "Terms";
    private static final String[] WORDS = {"house", "work", "term", "trip", "likes", "late", "couriers", "seed", "if", "then",
        "else", "north", "walls", "kind", "value", "many", "same", "home", "which", "day"};
    private static final String[] VARS = {"north", "walls", "kind", "value", "many", "same", "home", "which", "day"};
    private static final String[] SIGNS = {";", "=", "+", "-", "*", "/", "<", "(", ")"};
    private static final String[] NO_TOKENS = {"#", "A", "_", ">", "abcdefghi", "12345", "00000", "\u0000", "\u00ff", "\u000b"};
    private static final String HOUSE = "house a 1 1;";
    private static final String BOTH = "house a 1 1; work b a a 1 1; ";
    private static final String FIVE = "house a 1 1;house p 1 1;house q 1 1;house r 1 1;house s 1 1;";
    private static final String SIX = HOUSE + "work b a a 1 1;work c a a 1 1;work d a a 1 1;work e a a 1 1;work f a a 1 1;"
        + "work g a a 1 1;";
    private static final String SIX_TERMS = SIX + "term b 1<2;term b 1<2;term b 1<2;term c 1<2;term b 1<2;term g 1<2;";
    /** Four hundred tokens in 931 bytes. */
    private static final String FULL = "trip=1;" + "seed 1;".repeat(132);

    private final Quoted q;

    TextSentences(Quoted q) {
        this.q = q;
    }

    void all() {
        newObject();
        feed();
        feedTooMuch();
        back();
        backTooMuch();
        read();
        place();
        bytes();
        blanks();
        longest();
        names();
        ints();
        signs();
        noToken();
        noTells();
        tells();
        laws();
        sums();
        products();
        units();
        variables();
        houses();
        works();
        terms();
        numbered();
        lawsNotTold();
        numbersNotTold();
        firstFault();
        syntax();
        tokenTooMany();
        sortTooMany();
        ifTooMany();
        openTooMany();
        onlyIfNone();
        twice();
        unknown();
        wrong();
        faultChangesNothing();
        inPlace();
    }

    // ---- promises 1 to 5

    private void newObject() {
        q.by("Promise 1", "No HOUSES, no WORKS.");
        LentPictures x = new LentPictures();
        q.same("a new object", Picture.of(x), Picture.of(Due.told("")));
        for (int what = 0; what <= 12; what++) {
            q.is("count(" + what + ")", x.count(what), 0);
        }
        for (int i = -1; i <= 1; i++) {
            q.is("house(" + i + ", 0)", x.house(i, 0), -1);
            q.is("work(" + i + ", 0)", x.work(i, 0), -1);
            q.is("may(" + i + ", 0)", x.may(i, 0), -1);
            q.is("holds(" + i + ", 0)", x.holds(i, 0), -1);
            q.is("likes(" + i + ", 0)", x.likes(i, 0), -1);
            q.is("trip(" + i + ", 0)", x.trip(i, 0), -1);
            q.is("send(" + i + ", 0)", x.send(i, 0), -1);
            q.is("lift(" + i + ", true)", x.lift(i, true), false);
            q.is("then(" + i + ", 0)", x.then(i, 0), -1);
            q.is("times(" + i + ", 0, 1, 1)", x.times(i, 0, 1, 1), -1);
            q.is("owes(" + i + ", 0)", x.owes(i, 0), -1);
            q.is("lent(" + i + ", 0)", x.lent(i, 0), -1);
            q.is("list(" + i + ", 0, 0)", x.list(i, 0, 0), -1);
            q.is("sure(0, " + i + ")", x.sure(0, i), -1);
            q.is("restore(" + i + ")", x.restore(i), false);
        }
        q.is("undo()", x.undo(), false);
        q.is("well()", x.well(), true);
        q.is("bad()", x.bad(), -2);
        q.is("hangings()", x.hangings(), 1);
        q.is("nearest(-1)", x.nearest(-1), 0);
        q.is("nearest(0)", x.nearest(0), -1);
        q.is("quarrel(0)", x.quarrel(0), -2);
        q.is("home(false)", x.home(false), 0);
        q.is("home(true)", x.home(true), 0);
        q.is("swaps(-1)", x.swaps(-1), 0);
        q.is("swaps(0)", x.swaps(0), -2);
        q.is("backs(-1)", x.backs(-1), 1);
        q.is("backs(0)", x.backs(0), 0);
        q.is("backs(1)", x.backs(1), -1);
        q.is("soonest()", x.soonest(), 0);
        q.is("richest(false)", x.richest(false), -2);
        q.is("fits(0, 0)", x.fits(0, 0), 1);
        q.is("least(0)", x.least(0), 0);
        q.is("forget()", x.forget(), 0);
        q.is("place()", x.place(), -1);
        q.is("read()", x.read(), 0);
    }

    private void feed() {
        q.by("Promise 2", "Twenty bytes, the highest of a first, come behind the tape: how many it has.");
        LentPictures x = new LentPictures();
        for (int i = 1; i <= 100; i++) {
            q.is("feed " + i, x.feed(0x20202020, 0x20202020, 0x20202020, 0x20202020, 0x20202020), 20L * i);
        }
        for (int at = 0; at < 20; at++) {
            LentPictures y = new LentPictures();
            int[] five = {0x20202020, 0x20202020, 0x20202020, 0x20202020, 0x20202020};
            five[at / 4] ^= (0x20 ^ 0xff) << 24 - at % 4 * 8;
            q.is("feed", y.feed(five[0], five[1], five[2], five[3], five[4]), 20);
            y.feed(-1, -1, -1, -1, -1);
            q.is("read with byte 255 at " + at, y.read(), 1);
            q.is("place with byte 255 at " + at, y.place(), at);
        }
    }

    private static LentPictures tapeOf(int length) {
        LentPictures x = Due.told(HOUSE);
        Due.feed(x, " ".repeat(length - 7) + "house #");
        return x;
    }

    private void feedTooMuch() {
        q.by("Promise 2", "NONE, and nothing comes, if it would have more than 2,000.");
        q.is("feed on 1,980 bytes", tapeOf(1980).feed(1, 2, 3, 4, 5), 2000);
        q.is("feed on 1,979 bytes", tapeOf(1979).feed(1, 2, 3, 4, 5), 1999);
        for (int length : new int[] {1981, 1982, 1990, 1999, 2000}) {
            q.changesNothing("feed on " + length + " bytes", () -> tapeOf(length), x -> x.feed(1, 2, 3, 4, 5), -1);
        }
        LentPictures x = tapeOf(2000);
        for (int i = 0; i < 3; i++) {
            q.is("feed again", x.feed(1, 2, 3, 4, 5), -1);
        }
        q.is("count(8)", x.count(8), 2000);
    }

    private void back() {
        q.by("Promise 3", "The last n bytes of the tape go: how many it has.");
        for (int n = 0; n <= 20; n++) {
            LentPictures x = new LentPictures();
            Due.feed(x, "  house a 1 1; house");
            q.is("back(" + n + ")", x.back(n), 20 - n);
            q.is("count(8)", x.count(8), 20 - n);
            boolean whole = n >= 5 && n <= 6 || n >= 18;
            q.is("read behind back(" + n + ")", x.read() == 0, whole);
            boolean name = n > 0 && n < 5 || n > 13 && n < 18;
            q.is("place behind back(" + n + ")", x.place(), whole ? -1 : !name ? 20 - n : n < 5 ? 15 : 2);
        }
        LentPictures full = tapeOf(2000);
        q.is("back(2000)", full.back(2000), 0);
        LentPictures twice = tapeOf(40);
        q.is("back(15)", twice.back(15), 25);
        q.is("back(15)", twice.back(15), 10);
        q.is("feed", twice.feed(0, 0, 0, 0, 0), 30);
        String[] cut = {"house a 1 1; houses", "seed 12345", "house abcdefghi", "late 7;", "late 7#"};
        int[] places = {18, 9, 14, 6, 6};
        for (int i = 0; i < cut.length; i++) {
            LentPictures x = new LentPictures();
            Due.feed(x, cut[i]);
            x.back(1);
            q.is("<" + cut[i] + "> less one", x.read(), 1);
            q.is("<" + cut[i] + "> less one", x.place(), places[i]);
        }
    }

    private void backTooMuch() {
        q.by("Promise 3", "NONE, and nothing goes, if it has not so many, or n is below 0.");
        q.is("back(1) of nothing", new LentPictures().back(1), -1);
        q.is("back(0) of nothing", new LentPictures().back(0), 0);
        for (int n : new int[] {23, 24, 2000, 2001, Integer.MAX_VALUE, -1, -2, -22, -2000, Integer.MIN_VALUE}) {
            q.changesNothing("back(" + n + ") of 22", x -> x.back(n), -1);
        }
        for (int n : new int[] {2001, 4000, -1, -2000}) {
            q.changesNothing("back(" + n + ") of 2,000", () -> tapeOf(2000), x -> x.back(n), -1);
        }
    }

    private void read() {
        q.by("Promise 4", "The tape, which is empty then, is read: 0, or the number of its FAULT.");
        String[] texts = {"", "house", FIVE + HOUSE, HOUSE + HOUSE, "term a 1 < 2;", "late 101;"};
        for (int number = 0; number < texts.length; number++) {
            LentPictures x = new LentPictures();
            Due.feed(x, texts[number]);
            q.is("read of <" + texts[number] + ">", x.read(), number);
            q.is("the tape behind it", x.count(8), 0);
            q.is("back(1) behind it", x.back(1), -1);
            q.is("read again", x.read(), 0);
            q.is("houses behind an empty tape", x.count(0), 0);
        }
    }

    private void place() {
        q.by("Promise 5", "The byte of the latest read()'s FAULT; NONE without.");
        LentPictures x = new LentPictures();
        q.is("ahead of the first read()", x.place(), -1);
        Due.tell(x, "# house");
        q.is("the first byte", x.place(), 0);
        Due.tell(x, HOUSE + "house a 1 1;");
        q.is("of the latest", x.place(), 18);
        x.days(1);
        x.undo();
        x.hold(0);
        x.restore(0);
        Due.feed(x, " #");
        q.is("until the next read()", x.place(), 18);
        x.read();
        q.is("the next read()", x.place(), 1);
        x.read();
        q.is("an empty tape has none", x.place(), -1);
        Due.tell(x, "late 101;");
        q.is("a number", x.place(), 5);
        Due.tell(x, HOUSE);
        q.is("without", x.place(), -1);
        Due.tell(x, " ".repeat(1995) + "house");
        q.is("the end of 2,000 bytes", x.place(), 2000);
    }

    // ---- tokens

    private void bytes() {
        q.by(TERMS, "A TEXT has 2,000 bytes at most.");
        q.good(" ".repeat(2000 - HOUSE.length()) + HOUSE);
        q.good(" ".repeat(2000));
        q.fault(" ".repeat(1999) + "#", 1, 1999);
        q.fault(" ".repeat(1980) + "house a 1 1; trip=1 ", 1, 2000);
        LentPictures x = new LentPictures();
        Due.feed(x, " ".repeat(1988) + HOUSE);
        q.is("a byte more", x.feed(-1, -1, -1, -1, -1), -1);
        q.is("read() of 2,000", x.read(), 0);
        q.is("count(0)", x.count(0), 1);
    }

    private void blanks() {
        q.by(TERMS, "TOKENS, the longest that can be, with blanks (9, 10, 13, 32) between or not:");
        for (int b = 0; b < 256; b++) {
            boolean blank = b == 9 || b == 10 || b == 13 || b == 32;
            String c = "" + (char) b;
            q.fault("seed 1 " + c + ";", blank ? 0 : 1, blank ? -1 : b == ';' ? 8 : 7);
            q.fault(c + "seed 1;", blank ? 0 : 1, blank ? -1 : 0);
            q.fault("seed 1; " + c, blank ? 0 : 1, blank ? -1 : 8);
        }
        q.good("\t\n\r  house\r\na\t1\n\n1\r;\t");
        q.good("house a1 1;work b a a1 1;trip=if 1<2then 3else(day);seed7;late0;couriers1;");
    }

    private void longest() {
        q.by(TERMS, "TOKENS, the longest that can be,");
        q.fault("housea 1 1;", 1, 0);
        q.fault("house ab c 1 1;", 1, 9);
        q.fault("house a 11;", 1, 10);
        q.good("house ab1 2;");
        q.fault("house ab12 3;", 5, 8);
        q.fault("trip = dayday;", 1, 7);
        q.fault("trip = ifday < 2 then 3 else 4;", 1, 7);
        q.good("trip = if day<2then 3else 4;");
        q.fault("trip = if day < 2 thenx 3 else 4;", 1, 18);
        LentPictures x = Due.told("house a 0 9; house aa 0 9; work aaa aa a 1 12;");
        q.is("owner aa", x.work(0, 0), 1);
        q.is("in a", x.work(0, 1), 0);
        q.is("value 12", x.work(0, 3), 12);
    }

    private void names() {
        q.by(TERMS, "NAMES (letters a .. z, 8 at most, none of the words in quotes),");
        for (int length = 1; length <= 12; length++) {
            String name = "zyxwvutsrqpo".substring(0, length);
            q.fault("house " + name + " 1 1;", length <= 8 ? 0 : 1, length <= 8 ? -1 : 6);
            q.fault(HOUSE + "work " + name + " a a 1 1;", length <= 8 ? 0 : 1, length <= 8 ? -1 : 17);
        }
        q.fault("house " + "a".repeat(1000) + " 1 1;", 1, 6);
        for (int b = 33; b < 256; b++) {
            boolean letter = b >= 'a' && b <= 'z';
            q.fault("house " + (char) b + " 1 1;", letter ? 0 : 1, letter ? -1 : 6);
        }
        for (String word : WORDS) {
            q.fault("house " + word + " 1 1;", 1, 6);
            q.fault(HOUSE + "work " + word + " a a 1 1;", 1, 17);
            q.fault(HOUSE + "work b " + word + " a 1 1;", 1, 19);
            q.fault(HOUSE + "work b a " + word + " 1 1;", 1, 21);
            q.fault("term " + word + " 1 < 2;", 1, 5);
            q.good("house " + word.substring(1) + " 1 1;");
            q.good("house " + word.substring(0, word.length() - 1) + " 1 1;");
            if (word.length() < 8) {
                q.good("house " + word + "s 1 1; house s" + word + " 1 1;");
            }
        }
        q.good("house text 1 1; house tell 1 1; house law 1 1; house none 1 1; house e 1 1;");
        lastLettersCount();
    }

    private void lastLettersCount() {
        LentPictures x = Due.told("house zzzzzzzz 1 1; house zzzzzzza 1 1; house zzzzzzz 1 1; house azzzzzzz 1 1;"
            + "work b zzzzzzza azzzzzzz 1 1; work c zzzzzzz zzzzzzzz 1 1;");
        q.is("the eighth letter counts", x.work(0, 0), 1);
        q.is("the first letter counts", x.work(0, 1), 3);
        q.is("seven letters", x.work(1, 0), 2);
        q.is("eight letters", x.work(1, 1), 0);
    }

    private void ints() {
        q.by(TERMS, "INTS (1 to 4 digits),");
        for (String digits : new String[] {"0", "9", "00", "10", "999", "0000", "1000", "9999"}) {
            q.good("seed " + digits + ";");
        }
        for (String digits : new String[] {"00000", "00001", "10000", "99999", "000000000000", "4294967296"}) {
            q.fault("seed " + digits + ";", 1, 5);
            q.fault("trip = 1 + " + digits + ";", 1, 11);
        }
        for (int b = 33; b < 256; b++) {
            boolean digit = b >= '0' && b <= '9';
            q.fault("seed " + (char) b + ";", digit ? 0 : 1, digit ? -1 : 5);
        }
        LentPictures x = Due.told("house a 0009 0; work b a a 007 0099; likes = 0080 + 9999 - 9998;");
        q.is("0009", x.house(0, 0), 9);
        q.is("007", x.work(0, 2), 7);
        q.is("0099", x.work(0, 3), 99);
        q.is("9999 - 9998", x.likes(0, 0), 81);
    }

    private void signs() {
        q.by(TERMS, "SIGNS ; = + - * / < ( ) .");
        for (int b = 33; b < 256; b++) {
            char c = (char) b;
            boolean operation = c == '+' || c == '-' || c == '*' || c == '/';
            q.fault("trip=1 " + c + "1;", operation ? 0 : 1, operation ? -1 : c == ';' ? 8 : 7);
        }
        q.good("trip=1;likes=(1+2)-(3*4)/5;" + BOTH + "term b 1<2;");
        q.fault("trip = 1.;", 1, 8);
        q.fault(BOTH + "term b 1 > 2;", 1, BOTH.length() + 9);
        q.fault(BOTH + "term b 1 <= 2;", 1, BOTH.length() + 10);
    }

    private void noToken() {
        q.by(TERMS, "A longer one, all else, is no TOKEN.");
        for (String none : NO_TOKENS) {
            q.fault(none, 1, 0);
            q.fault("house " + none + " 1 1;", 1, 6);
            q.fault("house a " + none + " 1;", 1, 8);
            q.fault("house a 1 1 " + none + ";", 1, 12);
            q.fault(HOUSE + " " + none, 1, 13);
            q.fault("trip = 1 + " + none, 1, 11);
        }
        q.fault("house aA 1 1;", 1, 7);
        q.fault("house a 1\u00e9 1;", 1, 9);
    }

    // ---- what a text is

    private static List<String> allTokens() {
        List<String> all = new ArrayList<>(List.of(WORDS));
        all.addAll(List.of(SIGNS));
        all.addAll(List.of(NO_TOKENS));
        all.add("a");
        all.add("zz");
        all.add("0");
        all.add("9999");
        return all;
    }

    /** A name stands as NAME, a number as INT, a variable, a number or a bracket as UNIT, four signs as OP. */
    private static boolean isAmong(String token, Set<String> sorts) {
        boolean name = token.equals("a") || token.equals("zz");
        boolean number = token.equals("0") || token.equals("9999");
        boolean unit = number || token.equals("(") || List.of(VARS).contains(token);
        boolean operation = List.of("+", "-", "*", "/").contains(token);
        return sorts.contains(token) || name && sorts.contains("NAME") || number && sorts.contains("INT")
            || unit && sorts.contains("UNIT") || operation && sorts.contains("OP");
    }

    /** Behind these tokens just those can come; none of them is a whole text yet. */
    private void goesOn(String ahead, String... sorts) {
        Set<String> among = Set.of(sorts);
        q.fault(BOTH + ahead, 1, BOTH.length() + ahead.length());
        q.fault(BOTH + ahead + "  ", 1, BOTH.length() + ahead.length() + 2);
        for (String token : allTokens()) {
            String text = BOTH + ahead + " " + token;
            if (!isAmong(token, among)) {
                q.fault(text, 1, BOTH.length() + ahead.length() + 1);
            } else if (token.equals(";")) {
                q.good(text);
            } else {
                q.fault(text, 1, text.length());
            }
        }
    }

    private void noTells() {
        q.by(TERMS, "text: {TELL}.");
        q.good("");
        q.good(" ");
        q.good("\r\n\t ");
        q.good(HOUSE);
        q.good(HOUSE + "seed 1;".repeat(100));
        q.fault(";", 1, 0);
        q.fault(HOUSE + ";", 1, 12);
        for (String token : allTokens()) {
            boolean tell = List.of("house", "work", "term", "trip", "likes", "late", "couriers", "seed").contains(token);
            q.fault(HOUSE + token, 1, tell ? 12 + token.length() : 12);
        }
    }

    private void tells() {
        q.by(TERMS, "TELL: 'house' NAME INT INT ';' | 'work' NAME NAME NAME INT INT ';' | 'term' NAME E '<' E ';' |"
            + " ('trip' | 'likes') LAW ';' | 'late' INT ';' | 'couriers' INT ';' | 'seed' INT ';'.");
        goesOn("house", "NAME");
        goesOn("house c", "INT");
        goesOn("house c 1", "INT");
        goesOn("house c 1 1", ";");
        goesOn("work", "NAME");
        goesOn("work c", "NAME");
        goesOn("work c a", "NAME");
        goesOn("work c a a", "INT");
        goesOn("work c a a 1", "INT");
        goesOn("work c a a 1 1", ";");
        goesOn("term", "NAME");
        goesOn("term b", "UNIT");
        goesOn("term b 1", "OP", "<");
        goesOn("term b 1 <", "UNIT");
        goesOn("term b 1 < 1", "OP", ";");
        for (String number : new String[] {"late", "couriers", "seed"}) {
            goesOn(number, "INT");
            goesOn(number + " 1", ";");
        }
    }

    private void laws() {
        q.by(TERMS, "LAW: '=' {'if' E '<' E 'then' E 'else'} E.");
        for (String law : new String[] {"trip", "likes"}) {
            goesOn(law, "=");
            for (int ifs = 0; ifs <= 3; ifs++) {
                String ahead = law + " =" + " if 1 < 1 then 1 else".repeat(ifs);
                goesOn(ahead, "UNIT", "if");
                goesOn(ahead + " 1", "OP", ";");
                goesOn(ahead + " if", "UNIT");
                goesOn(ahead + " if 1", "OP", "<");
                goesOn(ahead + " if 1 <", "UNIT");
                goesOn(ahead + " if 1 < 1", "OP", "then");
                goesOn(ahead + " if 1 < 1 then", "UNIT");
                goesOn(ahead + " if 1 < 1 then 1", "OP", "else");
            }
        }
    }

    private void sums() {
        q.by(TERMS, "E: PART {('+' | '-') PART}.");
        goesOn("trip = 1 +", "UNIT");
        goesOn("trip = 1 -", "UNIT");
        goesOn("trip = 1 + 1 - 1", "OP", ";");
        q.is("from the left", liking("50 - 20 - 10 + 5"), 25);
        q.is("many of them", liking("1" + " + 1".repeat(60)), 61);
        q.is("PARTs first", liking("1 + 2 * 3 - 8 / 4"), 5);
    }

    private void products() {
        q.by(TERMS, "PART: UNIT {('*' | '/') UNIT}.");
        goesOn("trip = 1 *", "UNIT");
        goesOn("trip = 1 /", "UNIT");
        goesOn("trip = 1 * 1 / 1", "OP", ";");
        q.is("from the left", liking("90 / 4 * 3 / 2"), 33);
        q.is("many of them", liking("2" + " * 3 / 3".repeat(60)), 2);
    }

    private void units() {
        q.by(TERMS, "UNIT: INT | VAR | '(' E ')'.");
        goesOn("trip = (", "UNIT");
        goesOn("trip = (1", "OP", ")");
        goesOn("trip = ((1)", "OP", ")");
        goesOn("trip = (1)", "OP", ";");
        goesOn("trip = 1 * (1 -", "UNIT");
        goesOn("trip = if (1) < ((1", "OP", ")");
        q.is("brackets", liking("(1 + 2) * (9 - (4 - 1))"), 18);
        q.is("brackets around all", liking("((7))"), 7);
        String deep = "1+1*(1+1*(1+1*(1+1*(1+1*(1+1*(1+1*1))))))";
        q.is("six brackets with much ahead of each", liking(deep), 8);
        q.is("that on both sides of four ifs", liking(("if " + deep + " < " + deep + " then 1 else ").repeat(3)
            + "if 7 < " + deep + " then 5 else 6"), 5);
    }

    private void variables() {
        q.by(TERMS, "VAR: 'north' | 'walls' | 'kind' | 'value' | 'many' | 'same' | 'home' | 'which' | 'day'.");
        for (String var : VARS) {
            goesOn("trip = " + var, "OP", ";");
            goesOn("term b " + var, "OP", "<");
        }
    }

    private static int liking(String law) {
        return Due.told(BOTH + "likes = " + law + ";").likes(0, 0);
    }

    // ---- what is told

    private void houses() {
        q.by(TERMS, "HOUSES, 5 at most (a NAME, how much NORTH its walls are 0 .. 9, WALLS: for how many works there is room"
            + " 0 .. 9),");
        q.good(FIVE);
        q.fault(FIVE + "house t 1 1;", 2, FIVE.length());
        for (int n = 0; n <= 9; n++) {
            LentPictures x = Due.told("house a " + n + " " + (9 - n) + ";");
            q.is("NORTH " + n, x.house(0, 0), n);
            q.is("WALLS " + (9 - n), x.house(0, 1), 9 - n);
        }
        for (int n : new int[] {10, 11, 99, 100, 9999}) {
            q.fault("house a " + n + " 1;", 5, 8);
            q.fault("house a 1 " + n + ";", 5, 10);
        }
    }

    private void works() {
        q.by(TERMS, "WORKS, 6 at most (a NAME, the HOUSE that owns it, the HOUSE where it is, KIND 0 .. 9, VALUE 0 .. 99),");
        q.good(SIX);
        q.fault(SIX + "work h a a 1 1;", 2, SIX.length());
        for (int n = 0; n <= 9; n++) {
            LentPictures x = Due.told("house a 1 1; house b 1 1; work c b a " + n + " " + n * 11 + ";");
            q.is("owner", x.work(0, 0), 1);
            q.is("where it is", x.work(0, 1), 0);
            q.is("KIND " + n, x.work(0, 2), n);
            q.is("VALUE " + n * 11, x.work(0, 3), n * 11);
        }
        for (int n : new int[] {10, 11, 99, 9999}) {
            q.fault(HOUSE + "work b a a " + n + " 1;", 5, 23);
        }
        for (int n : new int[] {100, 101, 999, 9999}) {
            q.fault(HOUSE + "work b a a 1 " + n + ";", 5, 25);
        }
    }

    private void terms() {
        q.by(TERMS, "TERMS, 6 at most (of which WORK; the one E must be less than the other one where it hangs),");
        q.good(SIX_TERMS);
        q.fault(SIX_TERMS + "term b 1<2;", 2, SIX_TERMS.length());
        LentPictures x = Due.told(BOTH + "term b 1 < 2; term b 2 < 2; term b 3 < 2; term b 0 - 1 < 0; term b 0 < 0 - 1;");
        int[] want = {1, 0, 0, 1, 0};
        for (int term = 0; term < want.length; term++) {
            q.is("holds(" + term + ", 0)", x.holds(term, 0), want[term]);
        }
        LentPictures where = Due.told("house a 3 9; house c 4 9; work b a a 1 1; term b north < 4;");
        q.is("NORTH 3", where.may(0, 0), 1);
        q.is("NORTH 4", where.may(0, 1), 0);
    }

    private void numbered() {
        q.by(TERMS, "numbered each from 0 on as they stand.");
        LentPictures x = Due.told("house z 9 1; work y z z 8 80; term y 1 < 2; house b 7 2; work a b z 6 60; term a 1 < 2;"
            + "term y 1 < 2; house m 5 3; work c m b 4 40;");
        int[] north = {9, 7, 5};
        int[] kind = {8, 6, 4};
        int[] terms = {5, 2, 0};
        for (int i = 0; i < 3; i++) {
            q.is("NORTH of " + i, x.house(i, 0), north[i]);
            q.is("KIND of " + i, x.work(i, 2), kind[i]);
            q.is("TERMS of " + i, x.work(i, 7), terms[i]);
            q.is("owner of " + i, x.work(i, 0), i);
        }
        q.is("HOUSE 3", x.house(3, 0), -1);
        q.is("WORK 3", x.work(3, 0), -1);
        q.is("TERM 3", x.holds(3, 0), -1);
        LentPictures most = Due.told(SIX_TERMS.replace(HOUSE, FIVE));
        q.is("HOUSE 4", most.house(4, 0), 1);
        q.is("HOUSE 5", most.house(5, 0), -1);
        q.is("WORK 5", most.work(5, 2), 1);
        q.is("WORK 6", most.work(6, 2), -1);
        q.is("TERM 5", most.work(5, 7), 32);
        q.is("TERM 6", most.holds(6, 0), -1);
    }

    private void lawsNotTold() {
        q.by(TERMS, "LAWS: TRIP (3), LIKES (value), if not told; the last one.");
        String works = "house a 5 6; house b 7 8; work c a a 3 0; work d a a 4 99; work e a a 4 57;";
        LentPictures x = Due.told(works);
        for (int w = 0; w < 3; w++) {
            q.is("TRIP not told", x.trip(w, 1), 3);
            q.is("LIKES not told", x.likes(1, w), x.work(w, 3));
        }
        LentPictures trip = Due.told(works + "trip = 8;");
        q.is("TRIP told", trip.trip(0, 1), 8);
        q.is("LIKES not told", trip.likes(1, 2), 57);
        LentPictures likes = Due.told("likes = 8;" + works);
        q.is("TRIP not told", likes.trip(0, 1), 3);
        q.is("LIKES told", likes.likes(1, 2), 8);
        LentPictures last = Due.told("trip = 1; likes = 2; trip = 3;" + works + "likes = 4; trip = 5; likes = 6; trip = 7;");
        q.is("the last TRIP", last.trip(0, 1), 7);
        q.is("the last LIKES", last.likes(1, 2), 6);
        Due.tell(last, works);
        q.is("TRIP not told again", last.trip(0, 1), 3);
        q.is("LIKES not told again", last.likes(1, 2), 57);
    }

    private void numbersNotTold() {
        q.by(TERMS, "LATE 0 .. 100 (0): of how many of 100 TRIPS, COURIERS 1 .. 3 (1), SEED 0 .. 9999 (0): the last one.");
        String works = "house a 5 6; house b 7 8; work c a b 3 0; work d a b 4 99; work e a b 4 57;";
        q.good("late 0; late 100; couriers 1; couriers 3; seed 0; seed 9999;");
        q.fault("late 101;", 5, 5);
        q.fault("late 9999;", 5, 5);
        q.fault("couriers 0;", 5, 9);
        q.fault("couriers 4;", 5, 9);
        q.fault("couriers 9999;", 5, 9);
        q.fault("seed 10000;", 1, 5);
        q.is("LATE not told: never", Due.told(works).times(0, 0, 3, 20), 20);
        q.is("LATE 0: never", Due.told(works + "late 0;").times(0, 0, 3, 20), 20);
        q.is("LATE 100: always", Due.told(works + "late 100;").times(0, 0, 7, 20), 0);
        q.is("the last LATE", Due.told("late 100;" + works + "late 50; late 0;").times(0, 0, 3, 20), 20);
        q.is("COURIERS not told", Due.told(works).soonest(), 9);
        q.is("COURIERS 1", Due.told(works + "couriers 1;").soonest(), 9);
        q.is("COURIERS 2", Due.told(works + "couriers 2;").soonest(), 6);
        q.is("COURIERS 3", Due.told(works + "couriers 3;").soonest(), 3);
        q.is("the last COURIERS", Due.told("couriers 3;" + works + "couriers 1; couriers 2;").soonest(), 6);
        for (int seed : new int[] {0, 1, 77, 9998, 9999}) {
            int lot = LawSentences.lot(seed, 0);
            String late = works + "late " + lot + ";" + (seed == 0 ? "" : "seed 5; seed " + seed + ";");
            q.is("SEED " + seed + ", its LOT", Due.told(late).send(0, 0), 3);
            late = works + (seed == 0 ? "" : "seed 5; seed " + seed + ";") + "late " + (lot + 1) + ";";
            q.is("SEED " + seed + ", its LOT and 1", Due.told(late).send(0, 0), 8);
        }
    }

    // ---- faults

    private void firstFault() {
        q.by(TERMS, "FAULTS of a text, the first by its place (a byte; the text's end: its length), of one place the least:");
        q.fault("# " + FIVE + "house f 1 1;", 1, 0);
        q.fault(FIVE + "house f 1 1; #", 2, 60);
        q.fault("house", 1, 5);
        q.fault("house   ", 1, 8);
        q.fault("house a 10 1; work b c a 1 1;", 5, 8);
        q.fault("work b c a 1 1; house a 10 1;", 4, 7);
        q.fault(HOUSE + "house a 10 10;", 3, 18);
        q.fault("house a 10 10;", 5, 8);
        q.fault("house a 1 10; house a 1 1;", 5, 10);
        q.fault(HOUSE + "work b a c 10 1; house a 1 1;", 4, 21);
        q.fault(FULL + "7", 1, 931);
        q.fault(FULL + " couriers", 2, 932);
        q.fault("trip = ((((((((1", 2, 13);
        q.fault("trip = if 1<2 then 1 else (((((((1", 2, 32);
    }

    private void syntax() {
        q.by(TERMS, "1 SYNTAX: a TOKEN, or what is none, with which no text goes on.");
        q.fault("house a 1 1; a", 1, 13);
        q.fault("7", 1, 0);
        q.fault("house a 1 1; house b 2 #", 1, 23);
        q.fault("house a 1 1; house b 2 abcdefghij;", 1, 23);
        q.fault("trip = (1));", 1, 10);
        q.fault("trip = ();", 1, 8);
        q.fault("trip = - 1;", 1, 7);
        q.fault("trip = (if 1 < 2 then 3 else 4);", 1, 8);
        q.fault("trip = if 1 < 2 then if 1 < 2 then 3 else 4 else 5;", 1, 21);
        q.fault("trip = if 1 < 2 < 3 then 4 else 5;", 1, 16);
        q.fault("trip = 1 < 2;", 1, 9);
        q.fault(BOTH + "term b if 1 < 2 then 1 else 2 < 3;", 1, BOTH.length() + 7);
        q.fault(BOTH + "term b 1 < 2 < 3;", 1, BOTH.length() + 13);
    }

    private void tokenTooMany() {
        q.by(TERMS, "2 ROOM: a 401st TOKEN;");
        q.good(FULL);
        q.good(FULL + " \n ".repeat(100));
        for (String token : new String[] {"house", "work", "term", "trip", "likes", "late", "couriers", "seed"}) {
            q.fault(FULL + token, 2, 931);
            q.fault(FULL + "  " + token + " # 1", 2, 933);
        }
        q.fault(FULL + "#", 1, 931);
        q.fault(FULL + "12345", 1, 931);
        q.fault(FULL + "a", 1, 931);
        String ahead = "trip=1+1;" + "seed 1;".repeat(131);
        q.fault(ahead + "late", 1, ahead.length() + 4);
        q.fault(ahead + "late 1", 2, ahead.length() + 5);
        q.fault(ahead + "late a", 1, ahead.length() + 5);
        q.fault(ahead + "late ;", 1, ahead.length() + 5);
        String sum = "trip = 1" + " + 1".repeat(198);
        q.good(sum + ";");
        q.fault(sum, 1, sum.length());
        q.fault(sum + " + 1;", 2, sum.length() + 3);
        q.fault(sum + " + ;", 1, sum.length() + 3);
        q.fault(sum + "; seed", 2, sum.length() + 2);
        String product = "trip = (1)" + " * 1".repeat(197);
        q.good(product + ";");
        q.fault(product + " * 1;", 2, product.length() + 3);
        String laws = "trip = 1;" + "late 1;".repeat(131) + "seed";
        q.fault(laws + " 5", 1, laws.length() + 2);
        q.fault(laws + " 5;;", 1, laws.length() + 3);
    }

    private void sortTooMany() {
        q.by(TERMS, "one more of a sort than told (at its first TOKEN);");
        q.fault(FIVE + " house f 1 1;", 2, 61);
        q.fault(FIVE + "seed 1; house f 1 1;", 2, 68);
        q.fault(FIVE + "house a 1 1;", 2, 60);
        q.fault(FIVE + "house f 10 1;", 2, 60);
        q.fault(FIVE + "house", 2, 60);
        q.fault(FIVE + "houses", 1, 60);
        q.fault(SIX + "work h a a 1 1;", 2, SIX.length());
        q.fault(SIX + " work h b a 1 1;", 2, SIX.length() + 1);
        q.fault(SIX_TERMS + "term b 1 < 2;", 2, SIX_TERMS.length());
        q.fault(SIX_TERMS + "\nterm h 1 < 2;", 2, SIX_TERMS.length() + 1);
        q.good(FIVE + SIX_TERMS.substring(HOUSE.length()));
        q.good("trip = 1;".repeat(9) + "likes = 1;".repeat(9) + "late 1;".repeat(9) + "couriers 1;".repeat(9) + "seed 1;".repeat(9));
        LentPictures x = Due.told(FIVE);
        q.is("told anew: five more", Due.tell(x, FIVE), 0);
        q.is("told anew: six", Due.tell(x, FIVE + "house f 1 1;"), 2);
        q.is("HOUSES", x.count(0), 5);
    }

    private void ifTooMany() {
        q.by(TERMS, "a 5th if of a LAW (at it);");
        for (String law : new String[] {"trip =", "likes ="}) {
            for (int ifs = 0; ifs <= 6; ifs++) {
                String text = law + " if 1 < 2 then 3 else".repeat(ifs) + " 4;";
                q.fault(text, ifs <= 4 ? 0 : 2, ifs <= 4 ? -1 : law.length() + 4 * 21 + 1);
            }
        }
        String four = "if 1 < 2 then 3 else ".repeat(4);
        q.good("trip = " + four + "4; trip = " + four + "4; likes = " + four + "4;");
        q.fault("trip = " + four + "4; likes = " + four + "if", 2, 7 + 84 + 11 + 84);
        q.fault("trip = " + four + "then", 1, 7 + 84);
        q.fault("trip = " + four + "4 if", 1, 7 + 84 + 2);
    }

    private void openTooMany() {
        q.by(TERMS, "a 7th ( within one another (at it).");
        for (int open = 0; open <= 9; open++) {
            String unit = "(".repeat(open) + "1" + ")".repeat(open);
            boolean fits = open <= 6;
            q.fault("trip = " + unit + ";", fits ? 0 : 2, fits ? -1 : 13);
            q.fault("trip = 1 + 2 * " + unit + " - 3;", fits ? 0 : 2, fits ? -1 : 21);
            q.fault("likes = if " + unit + " < 1 then 2 else 3;", fits ? 0 : 2, fits ? -1 : 17);
            q.fault("likes = if 1 < " + unit + " then 2 else 3;", fits ? 0 : 2, fits ? -1 : 21);
            q.fault("likes = if 1 < 2 then " + unit + " else 3;", fits ? 0 : 2, fits ? -1 : 28);
            q.fault("likes = if 1 < 2 then 3 else " + unit + ";", fits ? 0 : 2, fits ? -1 : 35);
            q.fault(BOTH + "term b " + unit + " < 2;", fits ? 0 : 2, fits ? -1 : BOTH.length() + 13);
            q.fault(BOTH + "term b 1 < " + unit + ";", fits ? 0 : 2, fits ? -1 : BOTH.length() + 17);
        }
        String six = "((((((1))))))";
        q.good("trip = " + six + " + " + six + " * " + six + ";");
        q.good("trip = (((((1) + (2) * (3)))) + (((((4))))));");
        q.fault("trip = (((((1 + ((2) * (3)))))));", 2, 17);
        q.fault("trip = (((((((", 2, 13);
        q.fault("trip = ((((((<", 1, 13);
        q.fault("trip = (((((( (", 2, 14);
    }

    private void onlyIfNone() {
        q.by(TERMS, "If there is none, likewise:");
        String[] first = {"house a 10 1;", "work b a a 1 1;", HOUSE + HOUSE, "late 101;"};
        for (String text : first) {
            q.fault(text + "#", 1, text.length());
            q.fault(text + " late", 1, text.length() + 5);
            q.fault(text + "trip = (((((((1", 2, text.length() + 13);
            q.fault(text + "seed 1;".repeat(140), 2, roomBehind(text));
        }
        q.fault("late 101; house a 10 1;", 5, 5);
        q.fault("house a 10 1; late 101;", 5, 8);
        q.fault(HOUSE + HOUSE + "work b c c 1 1;", 3, 18);
        q.fault(HOUSE + "work b c c 1 1;" + HOUSE, 4, 19);
    }

    /** The byte of the 401st token, if only seeds come behind a text. */
    private static int roomBehind(String text) {
        int left = 400 - text.replace(";", " ; ").strip().split(" +").length;
        return text.length() + left / 3 * 7 + (left % 3 == 0 ? 0 : left % 3 == 1 ? 5 : 6);
    }

    private void twice() {
        q.by(TERMS, "3 TWICE: a NAME told already (all together).");
        q.fault(HOUSE + "house a 1 1;", 3, 18);
        q.fault(HOUSE + "house b 1 1; house a 2 2;", 3, 31);
        q.fault(HOUSE + "work a a a 1 1;", 3, 17);
        q.fault(HOUSE + "work b a a 1 1; work b a a 1 1;", 3, 33);
        q.fault(HOUSE + "work b a a 1 1; house b 1 1;", 3, 34);
        q.good(HOUSE + "work b a a 1 1; house c 1 1; work d c a 1 1;");
        q.good("house aaaaaaaa 1 1; house aaaaaaa 1 1; house aaaaaaab 1 1;");
        String text = FIVE + SIX.substring(HOUSE.length());
        q.good(text);
        for (String name : new String[] {"a", "p", "s", "b", "f"}) {
            q.fault(text.replace("work g", "work " + name), 3, text.indexOf("work g") + 5);
        }
        LentPictures x = Due.told(HOUSE);
        q.is("a NAME of the text ahead", Due.tell(x, HOUSE + "work b a a 1 1;"), 0);
    }

    private void unknown() {
        q.by(TERMS, "4 NAME: (at it) no such HOUSE, WORK told ahead (a NAME told more than once is that of the first one).");
        q.fault(HOUSE + "work b c a 1 1;", 4, 19);
        q.fault(HOUSE + "work b a c 1 1;", 4, 21);
        q.fault(HOUSE + "work b c d 1 1;", 4, 19);
        q.fault(HOUSE + "work b b a 1 1;", 4, 19);
        q.fault(HOUSE + "work b a b 1 1;", 4, 21);
        q.fault("work b a a 1 1;" + HOUSE, 4, 7);
        q.fault(HOUSE + "work b a c 1 1; house c 1 1;", 4, 21);
        q.fault("term b 1 < 2;", 4, 5);
        q.fault(HOUSE + "term a 1 < 2;", 4, 17);
        q.fault(HOUSE + "term b 1 < 2; work b a a 1 1;", 4, 17);
        q.fault(BOTH + "work c b a 1 1;", 4, BOTH.length() + 7);
        q.fault(BOTH + "house b 1 1; work c b b 1 1;", 3, BOTH.length() + 6);
        LentPictures x = Due.told(BOTH);
        q.is("a HOUSE of the text ahead", Due.tell(x, "work c a a 1 1;"), 4);
        q.is("a WORK of the text ahead", Due.tell(x, HOUSE + "term b 1 < 2;"), 4);
        q.good(FIVE + "work f s s 1 1; work g a s 1 1; term f 1 < 2; term g 1 < 2;");
    }

    private void wrong() {
        q.by(TERMS, "5 WRONG (at the INT): a number not as told above.");
        q.fault("house a 10 9;", 5, 8);
        q.fault("house a 9 10;", 5, 10);
        q.fault("house a 0010 1;", 5, 8);
        q.good("house a 0009 0009;");
        q.fault(HOUSE + "work b a a 10 99;", 5, 23);
        q.fault(HOUSE + "work b a a 9 100;", 5, 25);
        q.good(HOUSE + "work b a a 9 99;");
        q.fault("late 101;", 5, 5);
        q.good("late 100;");
        q.fault("couriers 0;", 5, 9);
        q.fault("couriers 0004;", 5, 9);
        q.good("couriers 0003;");
        q.good("seed 9999;");
        q.fault("late 101; late 1;", 5, 5);
        q.fault("couriers 4; couriers 3;", 5, 9);
        q.good("trip = 9999 + 0; likes = if 9999 < 9999 then 9999 else 9999;");
    }

    private void faultChangesNothing() {
        q.by(TERMS, "A text with a FAULT changes nothing but the tape;");
        String[] texts = {"house", FIVE + "house f 1 1;", HOUSE + HOUSE, "term a 1 < 2;", "late 101;"};
        String rest = "late 100; seed 9; couriers 3; trip = 77; likes = 66; house m 9 9; house n 8 8; work o m n 7 77; term o 9 < 8;";
        for (int fault = 1; fault <= texts.length; fault++) {
            for (String text : new String[] {texts[fault - 1], rest + texts[fault - 1]}) {
                LentPictures x = Quoted.busy();
                x.back(22);
                Due.feed(x, text);
                q.is("read()", x.read() > 0, true);
                q.is("the tape", x.count(8), 0);
                LentPictures y = Quoted.busy();
                y.back(22);
                String place = "place\\(\\)=-?\\d+";
                q.same("behind <" + text + ">", Picture.of(x).replaceAll(place, ""), Picture.of(y).replaceAll(place, ""));
                Due.feed(x, "house q 3 4; house q 5");
                Due.feed(y, "house q 3 4; house q 5");
                x.read();
                y.read();
                q.alike("behind <" + text + "> and another one", x, y);
            }
        }
    }

    private static LentPictures readAgain() {
        LentPictures x = Quoted.busy();
        x.back(22);
        Due.tell(x, "house a 4 2; house b 6 3; work x b a 1 10; term x many < 2;");
        return x;
    }

    private void inPlace() {
        q.by(TERMS, "else it is in place of the one ahead:");
        q.same("another text", Picture.of(readAgain()), Picture.of(Due.told("house a 4 2; house b 6 3; work x b a 1 10;"
            + "term x many < 2;")));
        q.is("WORKS", readAgain().count(1), 1);
        q.is("TERMS", readAgain().count(2), 1);
        q.is("LIKES not told", readAgain().likes(0, 0), 10);
        LentPictures empty = Quoted.busy();
        empty.back(22);
        q.is("an empty text", empty.read(), 0);
        q.same("an empty text", Picture.of(empty), Picture.of(new LentPictures()));
        oneBehindTheOther();
        q.by(TERMS, "day 0,");
        q.is("count(3)", readAgain().count(3), 0);
        q.by(TERMS, "nothing under way,");
        q.is("count(5)", readAgain().count(5), 0);
        q.is("work(0, 1)", readAgain().work(0, 1), 0);
        q.by(TERMS, "all TERMS stand,");
        LentPictures lifted = Due.told(SIX_TERMS);
        for (int term = 0; term < 6; term++) {
            lifted.lift(term, true);
        }
        q.is("all lifted", lifted.count(7), 0);
        Due.tell(lifted, SIX_TERMS);
        q.is("all told again", lifted.count(7), 63);
        q.by(TERMS, "no TRIPS yet;");
        q.is("count(4)", readAgain().count(4), 0);
        q.is("count(12)", readAgain().count(12), 0);
        q.is("work(0, 6)", readAgain().work(0, 6), 0);
        q.is("lent(0, 1)", readAgain().lent(0, 1), 0);
        q.by(TERMS, "nothing can be undone, nothing is TOLD, SLOTS hold nothing.");
        q.is("count(9)", readAgain().count(9), 0);
        q.is("undo()", readAgain().undo(), false);
        q.is("count(10)", readAgain().count(10), 0);
        q.is("fits(1, 0)", readAgain().fits(1, 0), -1);
        q.is("forget()", readAgain().forget(), 0);
        q.is("list(0, 0, 0)", readAgain().list(0, 0, 0), 0);
        q.is("count(11)", readAgain().count(11), 0);
        for (int slot = 0; slot < 3; slot++) {
            q.is("restore(" + slot + ")", readAgain().restore(slot), false);
        }
    }

    /** Whatever has been read ahead, with faults or without, a text is read as by a new object. */
    private void oneBehindTheOther() {
        String much = FIVE + SIX_TERMS.substring(HOUSE.length()) + "trip = 9; likes = 8; late 100; couriers 3; seed 7;";
        String little = "house a 1 5; house z 1 5; work b a z 1 1; work c a z 1 2;";
        String sums = "trip = 1" + " + 1".repeat(198) + ";";
        String[] texts = {much, little, "", much, much, little, little + "#", "", much + "#", little, much + HOUSE, HOUSE + "work b",
            little, sums, sums, sums, sums, little + "likes = if value < 2 then 5 else 6;", "late 101; couriers 4;", little,
            much, much, little + "late 50;", much + "late 101;", little, much, little + "late 50;", ""};
        LentPictures x = new LentPictures();
        String last = Picture.of(x);
        for (String text : texts) {
            LentPictures fresh = new LentPictures();
            int fault = Due.tell(fresh, text);
            q.is("read of <" + text + "> behind others", Due.tell(x, text), fault);
            q.is("place in <" + text + "> behind others", x.place(), fresh.place());
            last = fault == 0 ? Picture.of(fresh) : last.replaceAll("place\\(\\)=-?\\d+", "place()=" + fresh.place());
            q.same("<" + text + "> behind others", Picture.of(x), last);
        }
    }
}
