/** Promises 25 to 29: then, times, owes, richest, lent. */
public final class AheadTest {
    private static final Due DUE = new Due("AheadTest");
    private static final String TEXT = "house a 4 3; house b 6 2; house c 1 1; work x b a 1 10; work y b a 1 20;"
        + "work z a b 2 30; work u c a 1 0;";

    private static void then() {
        LentPictures x = Due.told(TEXT + "trip = 99; late 100;");
        x.days(7);
        DUE.is("then(0, 0)", x.then(0, 0), 0);
        DUE.is("then(0, 200)", x.then(0, 200), 0);
        DUE.is("then(0, 201)", x.then(0, 201), -1);
        DUE.is("then(0, -1)", x.then(0, -1), -1);
        DUE.is("then(4, 0)", x.then(4, 0), -1);
        DUE.is("then(-1, 0)", x.then(-1, 0), -1);
        DUE.is("send(0, 2)", x.send(0, 2), 111);
        DUE.is("then(0, 103)", x.then(0, 103), -2);
        DUE.is("then(0, 104)", x.then(0, 104), 2);
        x.days(4);
        DUE.is("then(0, 99)", x.then(0, 99), -2);
        DUE.is("then(0, 100)", x.then(0, 100), 2);
    }

    private static void times() {
        LentPictures x = Due.told(TEXT + "trip = 4; late 30; seed 9990;");
        DUE.is("times(4, 0, 1, 1)", x.times(4, 0, 1, 1), -1);
        DUE.is("times(-1, 0, 1, 1)", x.times(-1, 0, 1, 1), -1);
        DUE.is("times(0, 3, 1, 1)", x.times(0, 3, 1, 1), -1);
        DUE.is("times(0, -1, 1, 1)", x.times(0, -1, 1, 1), -1);
        DUE.is("times(0, 1, -1, 1)", x.times(0, 1, -1, 1), -1);
        DUE.is("times(0, 1, 201, 1)", x.times(0, 1, 201, 1), -1);
        DUE.is("times(0, 1, 1, 0)", x.times(0, 1, 1, 0), -1);
        DUE.is("times(0, 1, 1, 21)", x.times(0, 1, 1, 21), -1);
        DUE.is("times(0, 0, 1, 21): NONE is looked at first", x.times(0, 0, 1, 21), -1);
        DUE.is("times(0, 0, 1, 1): it is there", x.times(0, 0, 1, 1), -2);
        DUE.is("times(0, 1, 0, 20)", x.times(0, 1, 0, 20), 0);
        DUE.is("times(0, 1, 200, 20)", x.times(0, 1, 200, 20), 20);
        DUE.is("times(0, 1, 3, 20)", x.times(0, 1, 3, 20), 0);
        DUE.is("times(0, 1, 9, 20)", x.times(0, 1, 9, 20), 20);
        DUE.is("times(0, 1, 8, 20)", x.times(0, 1, 8, 20), x.times(0, 1, 4, 20));
        for (int trips = 0; trips < 3; trips++) {
            int inTime = 0;
            for (int s = 1; s <= 20; s++) {
                inTime += lateBy(9989 + s, trips) < 30 ? 0 : 1;
                DUE.is("trip " + trips + ": times(1, 2, 4, " + s + ")", x.times(1, 2, 4, s), inTime);
            }
            DUE.is("some are in time", inTime > 0 && inTime < 20, true);
            x.send(trips == 2 ? 3 : 0, trips == 2 ? 2 : 1 - trips);
            x.days(20);
        }
        x.send(1, 2);
        DUE.is("under way", x.times(1, 2, 4, 1), -2);
        DUE.is("under way", x.times(1, 0, 4, 1), -2);
    }

    private static long lateBy(long seed, int trips) {
        long h = (seed ^ 83) * 1103515245L + 12345 & 0xffffffffL;
        h ^= h >> 15;
        h = (h ^ 8L * trips) * 1103515245L + 12345 & 0xffffffffL;
        h ^= h >> 15;
        return (h >> 1) % 100;
    }

    private static void owes() {
        LentPictures x = Due.told(TEXT);
        DUE.is("owes(0, 1)", x.owes(0, 1), 3);
        DUE.is("owes(0, 2)", x.owes(0, 2), 8);
        DUE.is("owes(1, 0)", x.owes(1, 0), 4);
        DUE.is("owes(2, 0)", x.owes(2, 0), 0);
        DUE.is("owes(0, 0)", x.owes(0, 0), -1);
        DUE.is("owes(3, 0)", x.owes(3, 0), -1);
        DUE.is("owes(0, 3)", x.owes(0, 3), -1);
        DUE.is("owes(-1, 0)", x.owes(-1, 0), -1);
        DUE.is("owes(0, -1)", x.owes(0, -1), -1);
        x.send(0, 2);
        DUE.is("under way: owes(0, 1)", x.owes(0, 1), 2);
        DUE.is("under way: owes(2, 1)", x.owes(2, 1), 1);
    }

    private static void richest() {
        LentPictures x = Due.told(TEXT);
        DUE.is("of alike ones the first", x.richest(false), 0);
        DUE.is("richest(true)", x.richest(true), 30);
        x.send(0, 2);
        DUE.is("under way", x.richest(false), 1);
        DUE.is("under way", x.richest(true), 30);
        x.send(1, 2);
        x.send(2, 2);
        DUE.is("nothing anywhere", x.richest(false), 0);
        DUE.is("nothing anywhere", x.richest(true), 0);
        x.days(3);
        DUE.is("all there", x.richest(false), 2);
        DUE.is("all there", x.richest(true), 60);
        DUE.is("no houses", new LentPictures().richest(false), -2);
        DUE.is("no houses", new LentPictures().richest(true), -2);
    }

    private static void lent() {
        LentPictures x = Due.told(TEXT + "trip = 1;");
        x.send(0, 1);
        x.send(1, 1);
        x.days(1);
        x.send(0, 2);
        x.days(1);
        x.send(0, 1);
        DUE.is("lent(0, 1)", x.lent(0, 1), 2);
        DUE.is("lent(1, 2)", x.lent(1, 2), 1);
        DUE.is("lent(2, 1)", x.lent(2, 1), 1);
        DUE.is("lent(1, 0)", x.lent(1, 0), 0);
        DUE.is("lent(1, 1)", x.lent(1, 1), -1);
        DUE.is("lent(3, 1)", x.lent(3, 1), -1);
        DUE.is("lent(1, 3)", x.lent(1, 3), -1);
        DUE.is("lent(-1, 1)", x.lent(-1, 1), -1);
        DUE.is("lent(1, -1)", x.lent(1, -1), -1);
        x.undo();
        DUE.is("undone: lent(2, 1)", x.lent(2, 1), 0);
    }

    public static void main(String[] args) {
        then();
        times();
        owes();
        richest();
        lent();
        DUE.end();
    }
}
