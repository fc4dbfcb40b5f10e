/** Sentences of "Terms", II (laws, hanging, sending), and of promises 6 to 17. */
final class LawSentences {
    private static final String TERMS = "Terms";
    /** The greatest int, told by numbers of four digits. */
    private static final String MAX = "(9999 * 9999 * 21 + 9999 * 4790 + 8416)";
    private static final String MIN = "(0 - " + MAX + " - 1)";
    /** Works 0 and 1 of one kind and 2 of another are in house 0, work 3 in house 1, which owns 0 and 3. */
    private static final String FOUR = "house a 4 3; house b 6 2; work x b a 1 10; work y a a 1 20; work z a a 2 30;"
        + "work u b b 1 90;";

    private final Quoted q;

    LawSentences(Quoted q) {
        this.q = q;
    }

    void all() {
        firstIf();
        wraps();
        rounds();
        dividedByZero();
        placeOfVariables();
        othersThere();
        ownHome();
        dayAndWay();
        mayHang();
        isWell();
        likesHeld();
        tripHeld();
        underWay();
        late();
        arrives();
        lentEver();
        lots();
        byHand();
        house();
        noHouse();
        work();
        noWork();
        may();
        holds();
        likes();
        trip();
        send();
        sendRefused();
        lift();
        liftRefused();
        days();
        daysRefused();
        undo();
        undoRefused();
        well();
        bad();
        notBad();
    }

    static int lot(int seed, int which) {
        long h = seed;
        for (long it : new long[] {83, which}) {
            h = (h ^ it) * 1103515245L + 12345 & 0xffffffffL;
            h ^= h / 32768;
        }
        return (int) (h / 2 % 100);
    }

    private static int liking(String law) {
        return Due.told(FOUR + "likes = " + law + ";").likes(0, 0);
    }

    private static boolean isTrue(String less, String more) {
        return liking("if " + less + " < " + more + " then 1 else 0") == 1;
    }

    private void value(String sum, int want) {
        String wanted = want < 0 ? "(0 - " + -want + ")" : "" + want;
        q.is(sum + " < " + want, isTrue(sum, wanted), false);
        q.is(sum + " > " + want, isTrue(wanted, sum), false);
    }

    // ---- II

    private void firstIf() {
        q.by(TERMS, "LAWS: the E of the first if that holds (one less than the other), else the last one;");
        for (int bits = 0; bits < 16; bits++) {
            StringBuilder law = new StringBuilder();
            for (int i = 0; i < 4; i++) {
                law.append("if ").append((bits >> i & 1) == 1 ? "1 < 2" : i % 2 == 0 ? "2 < 2" : "3 < 2").append(" then ")
                    .append(10 + i).append(" else ");
            }
            q.is(law + "20", liking(law + "20"), bits == 0 ? 20 : 10 + Integer.numberOfTrailingZeros(bits));
            LentPictures x = Due.told(FOUR + "trip = " + law + "20;");
            q.is("trip = " + law + "20", x.trip(0, 1), bits == 0 ? 20 : 10 + Integer.numberOfTrailingZeros(bits));
        }
        q.is("alike ones", liking("if 5 < 5 then 1 else 2"), 2);
        q.is("one less", liking("if 4 < 5 then 1 else 2"), 1);
        q.is("one more", liking("if 6 < 5 then 1 else 2"), 2);
        q.is("below 0", liking("if 0 - 5 < 0 - 4 then 1 else 2"), 1);
        q.is("the least and the greatest", liking("if " + MIN + " < " + MAX + " then 1 else 2"), 1);
        q.is("the greatest and the least", liking("if " + MAX + " < " + MIN + " then 1 else 2"), 2);
    }

    private void wraps() {
        q.by(TERMS, "ints of 32 bits that wrap,");
        q.is("the greatest is above 0", isTrue("0", MAX), true);
        q.is("the least is below 0", isTrue(MIN, "0"), true);
        q.is("the greatest and 1 is below 0", isTrue(MAX + " + 1", "0"), true);
        value(MAX + " + 1 - " + MIN, 0);
        value(MIN + " - 1 - " + MAX, 0);
        value(MAX + " + " + MAX, -2);
        value(MAX + " * 2", -2);
        value(MAX + " * " + MAX, 1);
        value(MIN + " * 2", 0);
        value(MIN + " / (0 - 1) - " + MIN, 0);
        value("256 * 256 * 256 * 256", 0);
        value("256 * 256 * 256 * 128 - " + MIN, 0);
        value("9999 * 9999 * 9999 / 1000 / 1000", -1027);
        LentPictures x = Due.told(FOUR + "term x " + MAX + " + 1 < 0; term x 0 < " + MIN + " - 1;");
        q.is("a TERM, too", x.holds(0, 0), 1);
        q.is("a TERM, too", x.holds(1, 0), 1);
    }

    private void rounds() {
        q.by(TERMS, "/ rounded towards 0;");
        int[][] rows = {{7, 2, 3}, {-7, 2, -3}, {7, -2, -3}, {-7, -2, 3}, {1, 2, 0}, {-1, 2, 0}, {1, -2, 0}, {-1, -2, 0},
            {6, 2, 3}, {-6, 2, -3}, {0, 5, 0}, {0, -5, 0}, {99, 100, 0}, {-99, 100, 0}, {9999, 9999, 1}, {-9999, 9998, -1}};
        for (int[] row : rows) {
            String[] told = new String[2];
            for (int i = 0; i < 2; i++) {
                told[i] = row[i] < 0 ? "(0 - " + -row[i] + ")" : "" + row[i];
            }
            value(told[0] + " / " + told[1], row[2]);
        }
    }

    private void dividedByZero() {
        q.by(TERMS, "a LAW, or an E of a TERM, in which something that is looked at is divided by 0 is 0.");
        for (String law : new String[] {"50 + 1 / 0", "50 + 0 / 0", "1 / day + 50", "50 + 0 * (1 / 0)", "50 + 1 / (3 - 3)",
            "50 + (((7 / many) / 0))", "if 1 / 0 < 1 then 50 else 51", "if 1 < 1 / 0 then 50 else 51",
            "if 0 - 1 < 1 / 0 then 50 else 51", "if 1 < 2 then 50 + 1 / 0 else 51", "if 2 < 2 then 50 else 51 + 1 / 0",
            "if 2 < 2 then 50 else if 1 / 0 < 1 then 51 else 52", "50 + 1 / 0 / 0", "50 + 1 / (1 / 2)"}) {
            q.is("LIKES " + law, liking(law), 0);
            q.is("TRIP " + law, Due.told(FOUR + "trip = " + law + ";").trip(0, 0), 1);
        }
        for (String law : new String[] {"if 1 < 2 then 50 else 1 / 0", "if 2 < 2 then 1 / 0 else 50",
            "if 1 < 2 then 50 else if 1 / 0 < 1 then 51 else 52", "if 1 < 2 then 50 else if 1 < 2 then 1 / 0 else 52",
            "if 2 < 2 then 1 / 0 else if 2 < 2 then 1 / 0 else 50", "50 + 0 / 1"}) {
            q.is("not looked at: LIKES " + law, liking(law), 50);
            q.is("not looked at: TRIP " + law, Due.told(FOUR + "trip = " + law + ";").trip(0, 1), 50);
        }
        LentPictures x = Due.told(FOUR + "term x 5 + 1 / 0 < 1; term x 0 - 1 < 5 / 0; term x 1 / 0 < 2 / 0; term x 0 < 5 + 1 / 0;"
            + "term x 1 / 0 < 0 - 1; term x 5 / 0 < 0 + 1;");
        int[] want = {1, 1, 0, 0, 0, 1};
        for (int term = 0; term < want.length; term++) {
            q.is("TERM " + term, x.holds(term, 0), want[term]);
        }
        LentPictures one = Due.told(FOUR + "term x 1 / day < 1; term x 1 < 5 / day;");
        q.is("day 0", one.holds(0, 0) * 2 + one.holds(1, 0), 2);
        one.days(1);
        q.is("day 1", one.holds(0, 0) * 2 + one.holds(1, 0), 1);
    }

    private void placeOfVariables() {
        q.by(TERMS, "For a WORK in a HOUSE: north, walls, which: the HOUSE's NORTH, WALLS, number; kind, value: the WORK's;");
        String text = "house a 0 9; house b 9 0; house c 3 4; work x a a 0 99; work y a a 9 0; ";
        String[] vars = {"north", "walls", "which", "kind", "value"};
        int[][] want = {{0, 9, 0, 0, 99}, {9, 0, 1, 0, 99}, {3, 4, 2, 0, 99}, {0, 9, 0, 9, 0}, {9, 0, 1, 9, 0}, {3, 4, 2, 9, 0}};
        for (int var = 0; var < vars.length; var++) {
            LentPictures x = Due.told(text + "likes = " + vars[var] + "; trip = " + vars[var] + ";");
            for (int i = 0; i < 6; i++) {
                q.is("LIKES " + vars[var], x.likes(i % 3, i / 3), want[i][var]);
                q.is("TRIP " + vars[var], x.trip(i / 3, i % 3), Math.max(1, want[i][var]));
            }
        }
    }

    private void othersThere() {
        q.by(TERMS, "many: how many other WORKS are there; same: how many of these have its KIND;");
        LentPictures many = Due.told(FOUR + "likes = many;");
        LentPictures same = Due.told(FOUR + "likes = same;");
        int[][] wantMany = {{2, 1}, {2, 1}, {2, 1}, {3, 0}};
        int[][] wantSame = {{1, 1}, {1, 1}, {0, 0}, {2, 0}};
        for (int w = 0; w < 4; w++) {
            for (int h = 0; h < 2; h++) {
                q.is("many of " + w + " in " + h, many.likes(h, w), wantMany[w][h]);
                q.is("same of " + w + " in " + h, same.likes(h, w), wantSame[w][h]);
            }
        }
        StringBuilder six = new StringBuilder("house a 0 9; house b 0 9;");
        for (char c = 'q'; c <= 'v'; c++) {
            six.append(" work ").append(c).append(" a a 9 1;");
        }
        q.is("five others", Due.told(six + "likes = many;").likes(0, 5), 5);
        q.is("five alike", Due.told(six + "likes = same;").likes(0, 0), 5);
        q.is("none", Due.told(six + "likes = many + same;").likes(1, 0), 0);
    }

    private void ownHome() {
        q.by(TERMS, "home: 1 if the HOUSE owns it, else 0;");
        LentPictures x = Due.told(FOUR + "likes = 5 + home; trip = 7 + home;");
        int[] owner = {1, 0, 0, 1};
        for (int w = 0; w < 4; w++) {
            for (int h = 0; h < 2; h++) {
                q.is("LIKES " + w + " in " + h, x.likes(h, w), owner[w] == h ? 6 : 5);
                q.is("TRIP " + w + " to " + h, x.trip(w, h), owner[w] == h ? 8 : 7);
            }
        }
    }

    private void dayAndWay() {
        q.by(TERMS, "day (what is on the way is nowhere; for a WORK that is not there: as if it were).");
        LentPictures day = Due.told(FOUR + "likes = day; trip = day;");
        q.is("day 0", day.likes(0, 0), 0);
        day.days(98);
        q.is("day 98", day.likes(0, 0) + day.trip(0, 0), 196);
        LentPictures x = Due.told(FOUR + "likes = many * 10 + same;");
        x.send(0, 1);
        q.is("gone from a: y there", x.likes(0, 1), 10);
        q.is("not in b yet: u there", x.likes(1, 3), 0);
        q.is("as if it were in a", x.likes(0, 0), 21);
        q.is("as if it were in b", x.likes(1, 0), 11);
        x.days(2);
        q.is("still on the way", x.likes(1, 3), 0);
        x.days(1);
        q.is("in b: u there", x.likes(1, 3), 11);
        q.is("in b: z as if it were", x.likes(1, 2), 20);
        LentPictures two = Due.told(FOUR + "likes = many * 10 + same;");
        two.send(0, 1);
        two.send(1, 1);
        q.is("both on the way", two.likes(1, 0) * 100 + two.likes(1, 1), 1111);
    }

    private void mayHang() {
        q.by(TERMS, "A WORK MAY HANG in a HOUSE if that has room for it (fewer other WORKS than WALLS) and all its TERMS that"
            + " stand hold there.");
        StringBuilder works = new StringBuilder("house c 0 0;");
        for (char c = 'q'; c <= 'v'; c++) {
            works.append(" work ").append(c).append(" a a 9 1;");
        }
        for (int walls = 0; walls <= 9; walls++) {
            LentPictures x = Due.told("house a 0 " + walls + "; house b 0 " + walls + ";" + works);
            q.is("five others, WALLS " + walls, x.may(0, 0), walls > 5 ? 1 : 0);
            q.is("no others, WALLS " + walls, x.may(0, 1), walls > 0 ? 1 : 0);
            for (int w = 1; w < 6; w++) {
                x.send(w, 1);
                q.is(5 - w + " others, WALLS " + walls, x.may(0, 0), walls > 5 - w ? 1 : 0);
            }
            q.is("on the way is nowhere, WALLS " + walls, x.may(0, 1), walls > 0 ? 1 : 0);
            x.days(3);
            q.is("five others, not there, WALLS " + walls, x.may(0, 1), walls > 5 ? 1 : 0);
            q.is("no WALLS", x.may(0, 2), 0);
        }
        for (int bits = 0; bits < 8; bits++) {
            LentPictures x = Due.told(FOUR + "term x " + (1 - (bits & 1)) + " < 1; term y 1 < 1; term x " + (1 - (bits >> 1 & 1))
                + " < 1; term x " + (1 - (bits >> 2)) + " < 1;");
            q.is("its TERMS", x.may(0, 0), bits == 7 ? 1 : 0);
            for (int term = 0; term < 4; term++) {
                if (term != 1 && x.holds(term, 0) == 0) {
                    x.lift(term, true);
                }
            }
            q.is("those that stand", x.may(0, 0), 1);
            q.is("another one's", x.may(1, 0), 0);
        }
    }

    private void isWell() {
        q.by(TERMS, "It is WELL if no WORK that is in a HOUSE is where it may not hang.");
        q.is("no WORKS", Due.told("house a 0 0;").well(), true);
        q.is("no room at all", Due.told("house a 0 0; work x a a 1 1;").well(), false);
        q.is("room for one", Due.told("house a 0 1; work x a a 1 1;").well(), true);
        q.is("room for one of two", Due.told("house a 0 1; work x a a 1 1; work y a a 1 1;").well(), false);
        q.is("room for two", Due.told("house a 0 2; work x a a 1 1; work y a a 1 1;").well(), true);
        LentPictures last = Due.told(FOUR + "term u 1 < 1;");
        q.is("the last WORK's TERM", last.well(), false);
        last.send(3, 0);
        q.is("it is on the way", last.well(), true);
        last.days(3);
        q.is("it is there", last.well(), false);
        last.lift(0, true);
        q.is("four in room for three", last.well(), false);
        last.send(1, 1);
        q.is("three in room for three", last.well(), true);
    }

    private void likesHeld() {
        q.by(TERMS, "LIKES, held to 0 .. 99;");
        String[] laws = {"0 - 1", "0", "1", "98", "99", "100", "9999", "0 - 9999", MAX, MIN};
        int[] want = {0, 0, 1, 98, 99, 99, 99, 0, 99, 0};
        for (int i = 0; i < laws.length; i++) {
            LentPictures x = Due.told(FOUR + "likes = " + laws[i] + ";");
            q.is("LIKES " + laws[i], x.likes(0, 0), want[i]);
            q.is("of all there, LIKES " + laws[i], x.house(0, 4), 3 * want[i]);
        }
    }

    private void tripHeld() {
        q.by(TERMS, "TRIP, held to 1 .. 99 days, for the HOUSE to which (many, same: 0).");
        String[] laws = {"0 - 1", "0", "1", "2", "98", "99", "100", "9999", "0 - 9999", MAX, MIN};
        int[] want = {1, 1, 1, 2, 98, 99, 99, 99, 1, 99, 1};
        for (int i = 0; i < laws.length; i++) {
            LentPictures x = Due.told(FOUR + "trip = " + laws[i] + ";");
            q.is("TRIP " + laws[i], x.trip(0, 1), want[i]);
            q.is("sent, TRIP " + laws[i], x.send(0, 1), want[i]);
        }
        LentPictures x = Due.told(FOUR + "trip = 20 + many * 10 + same * 30 + which + north;");
        for (int w = 0; w < 4; w++) {
            q.is("to a", x.trip(w, 0), 24);
            q.is("to b", x.trip(w, 1), 27);
        }
    }

    private void underWay() {
        q.by(TERMS, "A WORK SENT to another HOUSE is under way for TRIP days, as it is then;");
        for (int days : new int[] {1, 2, 98, 99}) {
            LentPictures x = Due.told(FOUR + "trip = " + days + ";");
            x.days(10);
            q.is("sent for " + days, x.send(0, 1), 10 + days);
            q.is("under way at once", x.count(5), 1);
            if (days > 1) {
                x.days(days - 1);
                q.is("the day ahead", x.count(5), 1);
            }
            x.days(1);
            q.is("the day", x.count(5), 0);
        }
        LentPictures x = Due.told(FOUR + "trip = 2 + day * day;");
        x.days(3);
        q.is("on day 3", x.send(0, 1), 14);
        x.days(5);
        q.is("on day 8", x.work(0, 5), 14);
        q.is("another one on day 8", x.send(1, 1), 8 + 66);
        q.is("the first one", x.work(0, 5), 14);
    }

    private void late() {
        q.by(TERMS, "5 more if LOT 100 of the SEED and 8 * the number of TRIPS so far is less than LATE;");
        for (int seed = 0; seed < 40; seed++) {
            int lot = lot(seed, 0);
            for (int late : new int[] {0, lot - 1, lot, lot + 1, 100}) {
                if (late >= 0) {
                    LentPictures x = Due.told(FOUR + "seed " + seed + "; late " + late + ";");
                    q.is("SEED " + seed + ", LATE " + late, x.send(0, 1), lot < late ? 8 : 3);
                    q.is("count(12)", x.count(12), lot < late ? 1 : 0);
                }
            }
        }
        for (int late : new int[] {0, 1, 50, 99, 100}) {
            LentPictures x = Due.told(FOUR + "seed 9999; trip = 99; late " + late + ";");
            int lates = 0;
            for (int trips = 0; trips < 120; trips++) {
                boolean isLate = lot(9999, 8 * trips) < late;
                lates += isLate ? 1 : 0;
                int day = x.count(3);
                q.is("TRIPS so far " + trips + ", LATE " + late, x.send(0, 1 - trips % 2), day + (isLate ? 104 : 99));
                x.days(99);
                x.days(5);
            }
            q.is("how many were LATE", x.count(12), lates);
        }
    }

    private void arrives() {
        q.by(TERMS, "it is in the HOUSE on the day when these are over.");
        LentPictures x = Due.told(FOUR + "late 100; trip = 2;");
        q.is("sent", x.send(0, 1), 7);
        for (int day = 0; day < 7; day++) {
            q.is("day " + day, x.work(0, 1), -2);
            q.is("day " + day + ": the HOUSE", x.house(1, 2), 8);
            q.is("day " + day + ": goes there", x.work(0, 4), 1);
            x.days(1);
        }
        q.is("day 7", x.work(0, 1), 1);
        q.is("day 7: the HOUSE", x.house(1, 2), 9);
        q.is("day 7: goes nowhere", x.work(0, 4), -2);
        LentPictures over = Due.told(FOUR + "late 100; trip = 2;");
        over.send(0, 1);
        over.days(99);
        q.is("days that go beyond it", over.work(0, 1), 1);
    }

    private void lentEver() {
        q.by(TERMS, "What a HOUSE has LENT one is counted: WORKS SENT from it to that one, ever.");
        LentPictures x = Due.told("house a 0 9; house b 0 9; house c 0 9; work x c a 1 1; work y c a 1 1; trip = 1;");
        q.is("none yet", x.lent(0, 1), 0);
        x.send(0, 1);
        q.is("at once", x.lent(0, 1), 1);
        x.send(1, 1);
        x.days(1);
        q.is("two", x.lent(0, 1), 2);
        x.send(0, 0);
        x.days(1);
        q.is("come back: still counted", x.lent(0, 1), 2);
        q.is("back is LENT, too", x.lent(1, 0), 1);
        x.send(0, 1);
        q.is("again", x.lent(0, 1), 3);
        q.is("not to a third one", x.lent(0, 2) + x.lent(2, 0) + x.lent(1, 2) + x.lent(2, 1), 0);
        LentPictures often = Due.told("house a 0 9; house b 0 9; work x a a 1 1; trip = 1;");
        for (int i = 0; i < 200; i++) {
            often.send(0, 1 - i % 2);
            often.days(1);
        }
        q.is("a hundred times", often.lent(0, 1), 100);
        q.is("a hundred times back", often.lent(1, 0), 100);
    }

    private void lots() {
        q.by(TERMS, "LOT n of a SEED and a which: h is the SEED; for each of 83, which: h becomes (h and it, each bit of which is in"
            + " just one) times 1103515245 and 12345 more, then h and h moved 15 bits down (zeros come in), likewise; the rest of"
            + " h, moved 1 bit down likewise, by n (32 bits that wrap).");
        int[] seeds = {0, 1, 4711, 9999};
        int[] lots = {28, 34, 31, 44};
        for (int i = 0; i < 4; i++) {
            q.is("SEED " + seeds[i], exactLot(seeds[i], 0), lots[i]);
        }
        int[] byTrips = {28, 6, 41, 51, 50, 40, 87, 25};
        for (int trips = 0; trips < byTrips.length; trips++) {
            q.is("SEED 0 behind " + trips + " TRIPS", exactLot(0, trips), byTrips[trips]);
        }
        for (int seed = 0; seed < 10000; seed += 20) {
            LentPictures x = Due.told(FOUR + "late 50; seed " + seed + ";");
            int inTime = 0;
            for (int s = 0; s < 20; s++) {
                inTime += lot(seed + s, 0) < 50 ? 0 : 1;
            }
            q.is("SEEDS from " + seed, x.times(0, 1, 3, 20), inTime);
        }
    }

    /** The LOT of a SEED, found by the class alone: the greatest LATE with which it is not late. */
    private static int exactLot(int seed, int trips) {
        int low = 0;
        int high = 100;
        while (high - low > 1) {
            int middle = (low + high) / 2;
            LentPictures x = Due.told(FOUR + "seed " + seed + "; late " + middle + ";");
            for (int i = 0; i < trips; i++) {
                x.send(0, 1 - i % 2);
                x.days(8);
            }
            boolean late = x.send(1, 1) - x.count(3) > 3;
            low = late ? low : middle;
            high = late ? middle : high;
        }
        return low;
    }

    private void byHand() {
        q.by(TERMS, "By hand: a WORK that is in a HOUSE is SENT; a TERM is LIFTED, or stands again; DAYS go by.");
        LentPictures x = Due.told(FOUR + "term x 1 < 1;");
        q.is("SENT", x.send(0, 1), 3);
        q.is("under way it is not SENT", x.send(0, 0), -2);
        q.is("LIFTED", x.lift(0, true), true);
        q.is("stands again", x.lift(0, false), true);
        q.is("DAYS", x.days(3), 3);
        q.is("SENT again", x.send(0, 0), 6);
        q.is("things done", x.count(9), 5);
    }

    // ---- promises 6 to 11: what is

    private void house() {
        q.by("Promise 6", "Of a HOUSE: what 0 NORTH, 1 WALLS, 2 WORKS there (bits), 3 WORKS that it owns (bits), 4 what it LIKES of"
            + " all there, together.");
        LentPictures x = Due.told(FOUR + "house c 9 0; likes = value + many;");
        int[][] want = {{4, 3, 7, 6, 66}, {6, 2, 8, 9, 90}, {9, 0, 0, 0, 0}};
        for (int h = 0; h < 3; h++) {
            for (int what = 0; what < 5; what++) {
                q.is("house(" + h + ", " + what + ")", x.house(h, what), want[h][what]);
            }
        }
        x.send(1, 2);
        q.is("on the way: gone", x.house(0, 2), 5);
        q.is("on the way: not there", x.house(2, 2), 0);
        q.is("on the way: still owned", x.house(0, 3), 6);
        q.is("on the way: LIKES", x.house(0, 4), 42);
        x.days(3);
        q.is("there", x.house(2, 2), 2);
        q.is("there: LIKES", x.house(2, 4), 20);
        LentPictures most = Due.told("house a 0 9; work q a a 1 99; work r a a 1 99; work s a a 1 99; work t a a 1 99;"
            + "work u a a 1 99; work v a a 1 99; likes = 9999;");
        q.is("six there", most.house(0, 2), 63);
        q.is("six owned", most.house(0, 3), 63);
        q.is("six liked, each held to 99", most.house(0, 4), 594);
    }

    private void noHouse() {
        q.by("Promise 6", "NONE for others.");
        for (int i : outside(2)) {
            q.changesNothing("house(" + i + ", 0)", x -> x.house(i, 0), -1);
            q.is("house(" + i + ", 4)", Quoted.busy().house(i, 4), -1);
        }
        for (int what : outside(5)) {
            q.is("house(0, " + what + ")", Quoted.busy().house(0, what), -1);
            q.is("house(2, " + what + ")", Quoted.busy().house(2, what), -1);
        }
    }

    /** Just below 0, just above the last one, and far off. */
    static int[] outside(int size) {
        int[] all = new int[Quoted.FAR.length + 3];
        System.arraycopy(Quoted.FAR, 0, all, 3, Quoted.FAR.length);
        all[0] = -1;
        all[1] = size;
        all[2] = size + 1;
        return all;
    }

    private void work() {
        q.by("Promise 7", "Of a WORK: what 0 owner, 1 where it is (-2: under way), 2 KIND, 3 VALUE,");
        LentPictures x = Due.told(FOUR + "term y 1 < 2; term x 1 < 2; term y 1 < 1; trip = 4;");
        int[][] want = {{1, 0, 1, 10}, {0, 0, 1, 20}, {0, 0, 2, 30}, {1, 1, 1, 90}};
        for (int w = 0; w < 4; w++) {
            for (int what = 0; what < 4; what++) {
                q.is("work(" + w + ", " + what + ")", x.work(w, what), want[w][what]);
            }
        }
        x.days(6);
        x.send(0, 1);
        q.is("under way", x.work(0, 1), -2);
        q.is("under way: owner", x.work(0, 0), 1);
        q.by("Promise 7", "4 where it goes (-2: not under way), 5 on which day it is there (-2 likewise),");
        q.is("under way: where", x.work(0, 4), 1);
        q.is("under way: the day", x.work(0, 5), 10);
        q.is("not under way: where", x.work(1, 4), -2);
        q.is("not under way: the day", x.work(1, 5), -2);
        x.days(3);
        q.is("day 9: where", x.work(0, 4), 1);
        x.days(1);
        q.is("day 10: where", x.work(0, 4), -2);
        q.is("day 10: the day", x.work(0, 5), -2);
        x.send(0, 0);
        q.is("to HOUSE 0", x.work(0, 4), 0);
        q.by("Promise 7", "6 how often it was SENT, 7 its TERMS that stand (bits).");
        q.is("SENT twice", x.work(0, 6), 2);
        q.is("never SENT", x.work(1, 6), 0);
        LentPictures often = Due.told(FOUR + "trip = 1;");
        for (int trip = 0; trip < 12; trip++) {
            for (int w = 0; w < 4; w++) {
                if (trip < w * 4) {
                    often.send(w, 1 - often.work(w, 1));
                }
            }
            often.days(1);
        }
        for (int w = 0; w < 4; w++) {
            q.is("SENT so often: " + w, often.work(w, 6), w * 4);
        }
        q.is("TERMS of 0", x.work(0, 7), 2);
        q.is("TERMS of 1", x.work(1, 7), 5);
        q.is("TERMS of 2", x.work(2, 7), 0);
        x.lift(2, true);
        q.is("one lifted", x.work(1, 7), 1);
        x.lift(0, true);
        q.is("all lifted", x.work(1, 7), 0);
        x.lift(2, false);
        q.is("one stands again", x.work(1, 7), 4);
    }

    private void noWork() {
        q.by("Promise 7", "NONE for others.");
        for (int i : outside(3)) {
            q.changesNothing("work(" + i + ", 0)", x -> x.work(i, 0), -1);
            q.is("work(" + i + ", 5)", Quoted.busy().work(i, 5), -1);
        }
        for (int what : outside(8)) {
            q.is("work(0, " + what + ")", Quoted.busy().work(0, what), -1);
            q.is("work(3, " + what + ")", Quoted.busy().work(3, what), -1);
        }
    }

    private void may() {
        q.by("Promise 8", "MAY HANG there today: 1; 0 not;");
        LentPictures x = Due.told(FOUR + "term x day < 2; term u which < 1;");
        q.is("there", x.may(0, 0), 1);
        q.is("elsewhere", x.may(0, 1), 1);
        q.is("its TERM", x.may(3, 1), 0);
        q.is("no room", x.may(3, 0), 0);
        x.send(0, 1);
        q.is("under way, as if it were there", x.may(0, 1), 1);
        q.is("room where it was", x.may(3, 0), 1);
        x.days(2);
        q.is("today", x.may(0, 0), 0);
        q.by("Promise 8", "NONE: no such ones.");
        for (int i : outside(3)) {
            q.changesNothing("may(" + i + ", 0)", y -> y.may(i, 0), -1);
        }
        for (int i : outside(2)) {
            q.is("may(0, " + i + ")", Quoted.busy().may(0, i), -1);
            q.is("may(3, " + i + ")", Quoted.busy().may(3, i), -1);
        }
    }

    private void holds() {
        q.by("Promise 9", "Whether a TERM would hold for its WORK there today, standing or not: 1; 0 not;");
        LentPictures x = Due.told(FOUR + "term u many < 3; term x day < 1; term y 4 < north;");
        q.is("as if it were there", x.holds(0, 0), 0);
        q.is("there", x.holds(0, 1), 1);
        q.is("NORTH 4", x.holds(2, 0), 0);
        q.is("NORTH 6", x.holds(2, 1), 1);
        x.lift(0, true);
        x.lift(2, true);
        q.is("lifted", x.holds(0, 0), 0);
        q.is("lifted", x.holds(0, 1), 1);
        q.is("lifted", x.holds(2, 0), 0);
        q.is("today", x.holds(1, 0), 1);
        x.days(1);
        q.is("the day behind", x.holds(1, 0), 0);
        x.send(1, 1);
        q.is("one gone", x.holds(0, 0), 1);
        q.is("no room is no matter", Due.told("house a 1 0; work x a a 1 1; term x 1 < 2;").holds(0, 0), 1);
        q.by("Promise 9", "NONE: no such ones.");
        for (int i : outside(2)) {
            q.changesNothing("holds(" + i + ", 0)", y -> y.holds(i, 0), -1);
            q.is("holds(0, " + i + ")", Quoted.busy().holds(0, i), -1);
            q.is("holds(" + i + ", " + i + ")", Quoted.busy().holds(i, i), -1);
        }
    }

    private void likes() {
        q.by("Promise 10", "LIKES;");
        LentPictures x = Due.told(FOUR + "likes = value + many * 3 + same * 2 + home;");
        int[][] want = {{10 + 6 + 2, 20 + 6 + 2 + 1, 30 + 6 + 1, 99}, {10 + 3 + 2 + 1, 20 + 3 + 2, 30 + 3, 91}};
        for (int h = 0; h < 2; h++) {
            for (int w = 0; w < 4; w++) {
                q.is("likes(" + h + ", " + w + ")", x.likes(h, w), want[h][w]);
            }
        }
        q.by("Promise 10", "NONE: no such ones.");
        for (int i : outside(2)) {
            q.changesNothing("likes(" + i + ", 0)", y -> y.likes(i, 0), -1);
            q.is("likes(" + i + ", 3)", Quoted.busy().likes(i, 3), -1);
        }
        for (int i : outside(3)) {
            q.is("likes(0, " + i + ")", Quoted.busy().likes(0, i), -1);
        }
    }

    private void trip() {
        q.by("Promise 11", "TRIP of a WORK to a HOUSE now;");
        LentPictures x = Due.told(FOUR + "trip = value / 10 + north + day + home;");
        q.is("to another one", x.trip(0, 1), 1 + 6 + 1);
        q.is("to where it is", x.trip(0, 0), 1 + 4);
        x.days(9);
        q.is("on day 9", x.trip(0, 1), 1 + 6 + 9 + 1);
        x.send(0, 1);
        q.is("under way", x.trip(0, 1), 1 + 6 + 9 + 1);
        q.is("is not SENT by that", x.count(4), 1);
        q.is("LATE is no part of it", Due.told(FOUR + "late 100;").trip(0, 1), 3);
        q.by("Promise 11", "NONE: no such ones.");
        for (int i : outside(3)) {
            q.changesNothing("trip(" + i + ", 0)", y -> y.trip(i, 0), -1);
        }
        for (int i : outside(2)) {
            q.is("trip(0, " + i + ")", Quoted.busy().trip(0, i), -1);
            q.is("trip(3, " + i + ")", Quoted.busy().trip(3, i), -1);
        }
    }

    // ---- promises 12 to 17: what is done

    private void send() {
        q.by("Promise 12", "SENT: on which day it is there;");
        LentPictures x = Due.told(FOUR + "trip = 7;");
        x.days(99);
        q.is("send(0, 1)", x.send(0, 1), 106);
        q.is("count(4)", x.count(4), 1);
        q.is("count(5)", x.count(5), 1);
        q.is("count(9)", x.count(9), 2);
        q.is("no room is no matter", x.send(3, 0), 106);
        q.is("late", Due.told(FOUR + "trip = 200; late 100;").send(0, 1), 104);
    }

    private void sendRefused() {
        q.by("Promise 12", "-2, and nothing happens: it is there, it is under way;");
        q.changesNothing("it is there: send(1, 0)", x -> x.send(1, 0), -2);
        q.changesNothing("it is there: send(2, 1)", x -> x.send(2, 1), -2);
        q.changesNothing("under way there: send(0, 1)", x -> x.send(0, 1), -2);
        q.changesNothing("under way from there: send(0, 0)", x -> x.send(0, 0), -2);
        q.by("Promise 12", "NONE: no such ones.");
        for (int i : outside(3)) {
            q.changesNothing("send(" + i + ", 0)", x -> x.send(i, 0), -1);
        }
        for (int i : outside(2)) {
            q.changesNothing("send(1, " + i + ")", x -> x.send(1, i), -1);
            q.changesNothing("under way: send(0, " + i + ")", x -> x.send(0, i), -1);
        }
    }

    private void lift() {
        q.by("Promise 13", "LIFTED (or stands again): true;");
        LentPictures x = Due.told(FOUR + "term x 1 < 1; term x 1 < 1; term x 1 < 1; term x 1 < 1; term x 1 < 1; term x 1 < 1;");
        for (int term = 0; term < 6; term++) {
            q.is("lift(" + term + ", true)", x.lift(term, true), true);
            q.is("TERMS that stand", x.count(7), 63 & -2 << term);
            q.is("things done", x.count(9), term + 1);
        }
        for (int term = 5; term >= 0; term--) {
            q.is("lift(" + term + ", false)", x.lift(term, false), true);
            q.is("TERMS that stand", x.count(7), 63 & -1 << term);
        }
        q.is("things done", x.count(9), 12);
    }

    private void liftRefused() {
        q.by("Promise 13", "false, and nothing happens: it is so, no such TERM.");
        q.changesNothing("it stands: lift(0, false)", x -> x.lift(0, false) ? 1 : 0, 0);
        q.changesNothing("it is lifted: lift(1, true)", x -> x.lift(1, true) ? 1 : 0, 0);
        for (int i : outside(2)) {
            q.changesNothing("lift(" + i + ", true)", x -> x.lift(i, true) ? 1 : 0, 0);
            q.changesNothing("lift(" + i + ", false)", x -> x.lift(i, false) ? 1 : 0, 0);
        }
    }

    private void days() {
        q.by("Promise 14", "n DAYS (0 .. 99; 0 is no thing done) go by: which it is;");
        LentPictures x = Due.told(FOUR);
        q.is("days(99)", x.days(99), 99);
        q.is("days(1)", x.days(1), 100);
        q.is("days(98)", x.days(98), 198);
        q.is("things done", x.count(9), 3);
        q.is("days(0)", x.days(0), 198);
        q.is("0 is no thing done", x.count(9), 3);
        q.is("undo()", x.undo(), true);
        q.is("the day", x.count(3), 100);
        q.changesNothing("days(0)", y -> y.days(0), 3);
        q.is("without a text", new LentPictures().days(99), 99);
    }

    private void daysRefused() {
        q.by("Promise 14", "NONE, and nothing happens: no such n.");
        for (int n : new int[] {-1, -2, -99, 100, 101, 198, 256, Integer.MAX_VALUE, Integer.MIN_VALUE}) {
            q.changesNothing("days(" + n + ")", x -> x.days(n), -1);
        }
    }

    private void undo() {
        q.by("Promise 15", "The last thing done (send, lift, days) is undone: true;");
        LentPictures x = Due.told(FOUR + "term x 1 < 1; late 100; trip = 2;");
        LentPictures[] then = new LentPictures[6];
        String[] pictures = new String[6];
        for (int i = 0; i < 6; i++) {
            then[i] = Due.told(FOUR + "term x 1 < 1; late 100; trip = 2;");
            for (int step = 0; step < i; step++) {
                step(then[i], step);
            }
            pictures[i] = Picture.of(then[i]);
        }
        for (int step = 0; step < 5; step++) {
            step(x, step);
        }
        for (int i = 4; i >= 0; i--) {
            q.is("undo to " + i, x.undo(), true);
            q.same("undone to " + i, Picture.of(x), pictures[i]);
        }
        q.is("undo()", x.undo(), false);
        step(x, 0);
        q.same("done again", Picture.of(x), pictures[1]);
        LentPictures held = Due.told(FOUR);
        held.days(1);
        held.hold(0);
        held.list(0, 0, 0);
        held.feed(0, 0, 0, 0, 0);
        q.is("undo() behind hold, list, feed", held.undo(), true);
        q.is("the day", held.count(3), 0);
        q.is("LISTS stay", held.count(10), 1);
        q.is("the tape stays", held.count(8), 20);
        q.is("SLOTS stay", held.count(11), 1);
    }

    private static void step(LentPictures x, int step) {
        switch (step) {
            case 0 -> x.send(0, 1);
            case 1 -> x.lift(0, true);
            case 2 -> x.days(7);
            case 3 -> x.send(0, 0);
            default -> x.lift(0, false);
        }
    }

    private void undoRefused() {
        q.by("Promise 15", "false: there is none (the last 40 can be).");
        q.is("a new object", new LentPictures().undo(), false);
        q.is("a new text", Due.told(FOUR).undo(), false);
        q.changesNothing("a new text", () -> Due.told(FOUR), x -> x.undo() ? 1 : 0, 0);
        for (int done : new int[] {1, 39, 40, 41, 42, 79, 80, 81, 121}) {
            LentPictures x = Due.told(FOUR + "term x 1 < 1;");
            for (int i = 0; i < done; i++) {
                x.days(1);
            }
            int can = Math.min(40, done);
            q.is(done + " done: count(9)", x.count(9), can);
            for (int i = 1; i <= can; i++) {
                q.is(done + " done: undo " + i, x.undo(), true);
                q.is(done + " done: the day", x.count(3), done - i);
            }
            q.is(done + " done: one more", x.undo(), false);
            q.is(done + " done: the day", x.count(3), done - can);
            x.lift(0, true);
            q.is(done + " done: a new thing", x.count(9), 1);
            q.is(done + " done: undone", x.undo(), true);
            q.is(done + " done: it stands", x.count(7), 1);
            q.is(done + " done: no more", x.undo(), false);
        }
    }

    private void well() {
        q.by("Promise 16", "Whether it is WELL.");
        LentPictures x = Due.told(FOUR + "term x day < 2; term z day < 3;");
        q.is("day 0", x.well(), true);
        x.days(1);
        q.is("day 1", x.well(), true);
        x.days(1);
        q.is("day 2", x.well(), false);
        x.lift(0, true);
        q.is("lifted", x.well(), true);
        x.lift(0, false);
        q.is("stands again", x.well(), false);
        x.send(0, 1);
        q.is("under way", x.well(), true);
        x.days(1);
        q.is("day 3", x.well(), false);
    }

    private void bad() {
        q.by("Promise 17", "The first day from now (behind 0 .. 200) on which it is not WELL, all under way arriving;");
        for (int day : new int[] {0, 1, 2, 199, 200}) {
            LentPictures x = Due.told(FOUR + "term x day < " + day + ";");
            q.is("not WELL from day " + day + " on", x.bad(), day);
            q.is("nothing happens", x.count(3), 0);
        }
        LentPictures later = Due.told(FOUR + "term x day < 250;");
        later.days(50);
        q.is("from day 50", later.bad(), 200);
        later.days(99);
        q.is("from day 149", later.bad(), 101);
        later.days(99);
        later.days(2);
        q.is("from day 250", later.bad(), 0);
        later.days(7);
        q.is("from day 257", later.bad(), 0);
        LentPictures once = Due.told(FOUR + "term x (day - 150) * (day - 150) < 0 + (day - 150) * (day - 150) * 2;");
        q.is("one day alone", once.bad(), 150);
        once.days(99);
        once.days(52);
        q.is("that day is over", once.bad(), -2);
        LentPictures full = Due.told("house a 0 1; house b 0 1; work x a a 1 1; work y b b 1 1; trip = 7;");
        full.days(5);
        full.send(0, 1);
        q.is("arriving where there is no room", full.bad(), 7);
        full.days(6);
        q.is("the day ahead", full.bad(), 1);
        full.days(1);
        q.is("the day", full.bad(), 0);
        LentPictures late = Due.told("house a 0 1; house b 0 1; work x a a 1 1; work y b b 1 1; trip = 99; late 100;");
        late.send(0, 1);
        q.is("late", late.bad(), 104);
    }

    private void notBad() {
        q.by("Promise 17", "-2: it is.");
        q.is("no WORKS", new LentPictures().bad(), -2);
        q.is("day 201", Due.told(FOUR + "term x day < 201;").bad(), -2);
        LentPictures later = Due.told(FOUR + "term x day < 250;");
        later.days(49);
        q.is("201 days from now", later.bad(), -2);
        LentPictures lifted = Due.told(FOUR + "term x 1 < 1;");
        q.is("it stands", lifted.bad(), 0);
        lifted.lift(0, true);
        q.is("lifted", lifted.bad(), -2);
        q.is("no TERMS, room", Due.told(FOUR).bad(), -2);
    }
}
