/** Promises 18 to 24: what would be. */
public final class WouldBeTest {
    private static final Due DUE = new Due("WouldBeTest");

    private static void hangings() {
        LentPictures x = Due.told("house a 1 2; house b 5 1; house c 9 0; work x a a 1 1; work y a a 1 1;");
        DUE.is("hangings()", x.hangings(), 3);
        DUE.is("nearest(-1)", x.nearest(-1), 0);
        x.send(0, 2);
        DUE.is("under way: hangings()", x.hangings(), 3);
        DUE.is("under way: nearest(-1)", x.nearest(-1), 1);
        DUE.is("under way: nearest(0)", x.nearest(0), 0);
        DUE.is("under way: nearest(1)", x.nearest(1), 0);
        x.days(3);
        DUE.is("there: nearest(-1)", x.nearest(-1), 1);
        DUE.is("nearest(2)", x.nearest(2), -1);
        DUE.is("nearest(-2)", x.nearest(-2), -1);
        LentPictures all = Due.told("house a 0 9; house b 1 9; house c 2 9; house d 3 9; house e 4 9; work u a a 1 1;"
            + "work v a a 1 1; work w a a 1 1; work x a a 1 1; work y a a 1 1; work z a a 1 1;");
        DUE.is("all rows: hangings()", all.hangings(), 15625);
        LentPictures terms = Due.told("house a 0 9; house b 1 9; work x a a 1 1; work y a a 1 1; work z a a 2 1;"
            + "term x same < 1; term z many < 1 + day; term y 0 < which + home;");
        DUE.is("x and y apart, z alone: hangings()", terms.hangings(), 0);
        terms.days(1);
        DUE.is("z with one: hangings()", terms.hangings(), 4);
        DUE.is("z with one: nearest(-1)", terms.nearest(-1), 1);
        DUE.is("z with one: nearest(0)", terms.nearest(0), 0);
        DUE.is("z with one: nearest(1)", terms.nearest(1), 1);
        DUE.is("z with one: nearest(2)", terms.nearest(2), 0);
        terms.lift(0, true);
        DUE.is("lifted: hangings()", terms.hangings(), 6);
        terms.undo();
        DUE.is("undone: hangings()", terms.hangings(), 4);
        terms.hold(0);
        terms.undo();
        DUE.is("day 0 again: hangings()", terms.hangings(), 0);
        terms.restore(0);
        DUE.is("restored: hangings()", terms.hangings(), 4);
        Due.tell(terms, "house a 0 9; work x a a 1 1;");
        DUE.is("another text: hangings()", terms.hangings(), 1);
        LentPictures none = Due.told("house a 1 1;");
        DUE.is("no works: hangings()", none.hangings(), 1);
        DUE.is("no works: nearest(-1)", none.nearest(-1), 0);
    }

    /** Of alike ones the first by work 0's house, then by the next one's. */
    private static void nearestOfAlike() {
        LentPictures x = Due.told("house a 0 1; house b 0 1; house c 0 1; work x a c 1 1; work y a c 1 1; work z a c 1 1;");
        DUE.is("hangings()", x.hangings(), 6);
        DUE.is("nearest(-1)", x.nearest(-1), 2);
        DUE.is("nearest(0)", x.nearest(0), 0);
        DUE.is("nearest(1)", x.nearest(1), 1);
        DUE.is("nearest(2)", x.nearest(2), 2);
        LentPictures no = Due.told("house a 0 1; work x a a 1 1; work y a a 1 1;");
        DUE.is("none: nearest(-1)", no.nearest(-1), -2);
        DUE.is("none: nearest(1)", no.nearest(1), -2);
        DUE.is("none: nearest(2)", no.nearest(2), -1);
    }

    private static void quarrels() {
        LentPictures room = Due.told("house a 0 1; work x a a 1 1; work y a a 1 1; term x 1 < 0;");
        DUE.is("no room: quarrel(0)", room.quarrel(0), 0);
        DUE.is("no room: quarrel(1)", room.quarrel(1), 0);
        LentPictures x = Due.told("house a 0 9; house b 9 9; work x a a 1 1; work y a a 1 1; term x north < 5;"
            + "term x 4 < north; term y which < 1; term x 2 < north; term y 0 < which; term y many < 9;");
        DUE.is("quarrel(0)", x.quarrel(0), 2);
        DUE.is("quarrel(1): the least bits", x.quarrel(1), 3);
        x.lift(1, true);
        DUE.is("quarrel(1)", x.quarrel(1), 9);
        x.lift(0, true);
        DUE.is("quarrel(1)", x.quarrel(1), 20);
        x.lift(2, true);
        DUE.is("quarrel(0)", x.quarrel(0), -2);
        DUE.is("quarrel(1)", x.quarrel(1), -2);
        DUE.is("quarrel(2)", x.quarrel(2), -1);
        DUE.is("quarrel(-1)", x.quarrel(-1), -1);
        LentPictures fewer = Due.told("house a 0 9; house b 9 9; work x a a 1 1; work y a a 1 1; term x north < 5;"
            + "term x 4 < north; term y 5 < day;");
        DUE.is("one alone: quarrel(0)", fewer.quarrel(0), 1);
        DUE.is("one alone: quarrel(1)", fewer.quarrel(1), 4);
        LentPictures three = Due.told("house a 0 9; house b 9 9; house c 9 9; work x a a 1 1; work y a a 2 1; work z a a 3 1;"
            + "work u a a 4 1; term x many < 1; term y many < 1; term z many < 1; term u many < 1;");
        DUE.is("alone in three houses: quarrel(0)", three.quarrel(0), 3);
        DUE.is("alone in three houses: quarrel(1)", three.quarrel(1), 7);
    }

    private static void homes() {
        LentPictures x = Due.told("house a 0 1; house b 5 1; house c 9 1; work x a b 1 1; work y b a 1 1;");
        DUE.is("by the third house: home(false)", x.home(false), 3);
        x.send(0, 2);
        DUE.is("on its way to c: home(false)", x.home(false), 2);
        LentPictures tight = Due.told("house a 0 1; house b 5 1; work x a b 1 1; work y b a 1 1;");
        DUE.is("no way: home(false)", tight.home(false), -2);
        LentPictures full = Due.told("house a 0 1; house b 5 0; work x a b 1 1;");
        DUE.is("what is ahead is not looked at", full.home(false), 1);
        LentPictures over = Due.told("house a 0 1; house b 5 2; house c 9 1; work x a b 1 1; work y b b 1 1; work z c b 1 1;");
        DUE.is("too many ahead", over.home(false), 2);
        LentPictures much = Due.told("house a 0 1; house b 5 1; house c 9 2; work x a b 1 1; work y b b 1 1; work z c b 1 1;");
        DUE.is("still too many behind the first", much.home(false), -2);
        LentPictures there = Due.told("house a 0 0; house b 0 0; work x a a 1 1; work y b b 1 1; term x 1 < 0;");
        DUE.is("all home, no room: home(false)", there.home(false), 0);
        DUE.is("all home, no room: home(true)", there.home(true), 0);
        LentPictures terms = Due.told("house a 0 2; house b 1 2; house c 2 2; work x b a 1 1; work y a b 2 1;"
            + "term x many < 1; term y many < 1;");
        DUE.is("home(false)", terms.home(false), 2);
        DUE.is("home(true): never together", terms.home(true), 3);
        terms.lift(0, true);
        DUE.is("still never together", terms.home(true), 3);
        terms.lift(1, true);
        DUE.is("home(true): all lifted", terms.home(true), 2);
        terms.undo();
        terms.undo();
        terms.send(0, 1);
        terms.send(1, 0);
        DUE.is("all under way home", terms.home(true), 0);
        LentPictures ring = Due.told("house a 0 2; house b 0 1; house c 0 1; house d 0 1; house e 0 1; work x a b 1 1;"
            + "work y b c 1 1; work z c d 1 1; work u d e 1 1; work v e a 1 1;");
        DUE.is("a ring with room", ring.home(false), 5);
        LentPictures swapped = Due.told("house a 0 1; house b 0 1; house c 0 1; house d 0 1; house e 0 1; work x a b 1 1;"
            + "work y b a 1 1; work z c d 1 1; work u d c 1 1;");
        DUE.is("two exchanges by one house", swapped.home(false), 6);
        LentPictures six = Due.told("house a 0 2; house b 0 2; house c 0 2; house d 0 1; work u a b 1 1; work v a c 1 1;"
            + "work w b a 1 1; work x b c 1 1; work y c a 1 1; work z c b 1 1;");
        DUE.is("six by one place", six.home(false), 7);
        DUE.is("nothing: home(true)", new LentPictures().home(true), 0);
    }

    /** Each work, from each house to each other one, the others at their owners'. */
    private static void oneTripEach() {
        String houses = "house a 0 9; house b 0 9; house c 0 9; house d 0 9; house e 0 9;";
        for (int work = 0; work < 6; work++) {
            for (int trip = 0; trip < 25; trip++) {
                StringBuilder text = new StringBuilder(houses);
                for (int other = 0; other < 6; other++) {
                    int owner = other == work ? trip / 5 : other % 5;
                    int start = other == work ? trip % 5 : other % 5;
                    text.append(" work w").append((char) ('a' + other)).append(' ').append((char) ('a' + owner)).append(' ')
                        .append((char) ('a' + start)).append(" 1 1;");
                }
                DUE.is("work " + work + " by trip " + trip, Due.told(text.toString()).home(true), trip / 5 == trip % 5 ? 0 : 1);
            }
        }
    }

    /** What was found for one text, or one day, does not stay for the next. */
    private static void homesAnew() {
        LentPictures x = Due.told("house a 0 2; house b 5 2; work x a b 1 1; work y b a 1 1; term x day < 1 + many;");
        DUE.is("home(false)", x.home(false), 2);
        DUE.is("home(true)", x.home(true), 2);
        x.days(2);
        DUE.is("day 2: home(false)", x.home(false), 2);
        DUE.is("day 2: home(true)", x.home(true), -2);
        x.undo();
        DUE.is("day 0: home(true)", x.home(true), 2);
        Due.tell(x, "house a 0 1; house b 5 1; work x a b 1 1; work y b a 1 1;");
        DUE.is("no room: home(false)", x.home(false), -2);
        DUE.is("no room: home(true)", x.home(true), -2);
        Due.tell(x, "house a 0 9; house b 5 9; work u a a 1 1; work v a a 1 1; work w a a 1 1; work x a a 1 1;"
            + "work y a a 1 1; work z a a 1 1;");
        for (int work = 0; work < 6; work++) {
            x.send(work, 1);
            DUE.is("so many under way: nearest(-1)", x.nearest(-1), work + 1);
        }
        DUE.is("all under way: nearest(5)", x.nearest(5), 0);
        x.days(3);
        DUE.is("all there: nearest(-1)", x.nearest(-1), 0);
        DUE.is("all there: nearest(5)", x.nearest(5), 1);
        DUE.is("all there: home(true)", x.home(true), 6);
    }

    private static void swaps() {
        String houses = "house a 0 9; house b 9 9; work x a a 1 10; work y a b 2 20; work z a a 3 30; work u a b 4 40;";
        LentPictures x = Due.told(houses + "likes = if which < 1 then kind * 10 else 90 - kind * 10;");
        DUE.is("swaps(-1)", x.swaps(-1), 3);
        DUE.is("the best: swaps(0)", x.swaps(0), 0);
        DUE.is("the best: swaps(1)", x.swaps(1), 3);
        DUE.is("the best: swaps(2)", x.swaps(2), 60);
        DUE.is("swaps(3)", x.swaps(3), -1);
        DUE.is("swaps(-2)", x.swaps(-2), -1);
        x.send(3, 0);
        DUE.is("under way: swaps(-1)", x.swaps(-1), 1);
        DUE.is("under way: swaps(1)", x.swaps(1), 1);
        DUE.is("under way: swaps(2)", x.swaps(2), 20);
        LentPictures alike = Due.told(houses + "likes = if which < 1 then kind / 2 * 10 else 90 - kind / 2 * 10;");
        DUE.is("alike: swaps(-1)", alike.swaps(-1), 3);
        DUE.is("alike: swaps(0)", alike.swaps(0), 0);
        DUE.is("alike: swaps(1)", alike.swaps(1), 3);
        LentPictures first = Due.told("house a 0 9; house b 9 9; work x a a 1 10; work y a b 2 20; work z a a 1 30; work u a b 2 40;"
            + "likes = if which < 1 then kind * 10 else 90 - kind * 10;");
        DUE.is("of alike ones: swaps(-1)", first.swaps(-1), 4);
        DUE.is("of alike ones: swaps(0)", first.swaps(0), 0);
        DUE.is("of alike ones: swaps(1)", first.swaps(1), 1);
        LentPictures one = Due.told(houses + "likes = kind * 10;");
        DUE.is("good for one only: swaps(-1)", one.swaps(-1), 0);
        DUE.is("good for one only: swaps(2)", one.swaps(2), -2);
        LentPictures held = Due.told(houses + "likes = 99 + kind;");
        DUE.is("held to 99: swaps(-1)", held.swaps(-1), 0);
        LentPictures little = Due.told(houses + "likes = if which < 1 then 30 + kind / 4 else 30 - kind / 4;");
        DUE.is("a gain of 1 each: swaps(-1)", little.swaps(-1), 2);
        DUE.is("a gain of 1 each: swaps(0)", little.swaps(0), 0);
        DUE.is("a gain of 1 each: swaps(1)", little.swaps(1), 3);
        DUE.is("a gain of 1 each: swaps(2)", little.swaps(2), 2);
        LentPictures even = Due.told(houses + "likes = if which < 1 then kind else 50;");
        DUE.is("the other one gains nothing: swaps(-1)", even.swaps(-1), 0);
        LentPictures odd = Due.told(houses + "likes = if which < 1 then 50 else 9 - kind;");
        DUE.is("the one gains nothing: swaps(-1)", odd.swaps(-1), 0);
        LentPictures away = Due.told("house a 0 9; house b 9 9; work x a a 1 10; work y a b 2 20;"
            + "likes = if which < 1 then kind else 9 - kind;");
        DUE.is("both there: swaps(-1)", away.swaps(-1), 1);
        away.send(0, 1);
        DUE.is("the first under way: swaps(-1)", away.swaps(-1), 0);
        away.undo();
        away.send(1, 0);
        DUE.is("the second under way: swaps(-1)", away.swaps(-1), 0);
        LentPictures kin = Due.told("house a 0 9; house b 9 9; work x a a 1 1; work y a a 2 1; work z a b 2 1; work u a b 1 1;"
            + "likes = same * 10 + many;");
        DUE.is("in place of the other one: swaps(-1)", kin.swaps(-1), 2);
        DUE.is("in place of the other one: swaps(0)", kin.swaps(0), 0);
        DUE.is("in place of the other one: swaps(1)", kin.swaps(1), 2);
        DUE.is("in place of the other one: swaps(2)", kin.swaps(2), 20);
    }

    private static void backs() {
        LentPictures x = Due.told("house a 0 9; house b 5 9; house c 9 9; house d 9 9; work x b a 1 0; work y a b 2 20;"
            + "work z c c 3 30; work u a d 4 0;");
        DUE.is("backs(-1)", x.backs(-1), 8);
        int[] want = {0, 1, 4, 5, 8, 9, 12, 13};
        for (int i = 0; i < want.length; i++) {
            DUE.is("backs(" + i + ")", x.backs(i), want[i]);
        }
        DUE.is("backs(8)", x.backs(8), -1);
        DUE.is("backs(-2)", x.backs(-2), -1);
        DUE.is("backs(greatest)", x.backs(Integer.MAX_VALUE), -1);
        DUE.is("backs(least)", x.backs(Integer.MIN_VALUE), -1);
        x.send(1, 2);
        DUE.is("under way to c: backs(-1)", x.backs(-1), 8);
        DUE.is("under way to c: backs(7)", x.backs(7), 11);
        LentPictures alone = Due.told("house a 0 9; house b 5 9; work x b a 1 0; work y b a 1 0; likes = same + many;");
        DUE.is("as if alone there: backs(-1)", alone.backs(-1), 4);
        LentPictures today = Due.told("house a 0 9; house b 5 9; work x b a 1 0; likes = day;");
        DUE.is("today: backs(-1)", today.backs(-1), 4);
        today.days(1);
        DUE.is("on day 1: backs(-1)", today.backs(-1), 2);
        DUE.is("on day 1: backs(1)", today.backs(1), 2);
    }

    private static void soonest() {
        String works = "house a 0 9; house b 5 9; work u a b 1 7; work v a b 2 6; work w a b 3 5; work x a b 3 4;"
            + "work y a b 3 4; work z b b 3 90; trip = value + day; late 100;";
        DUE.is("one courier", Due.told(works).soonest(), 26);
        DUE.is("two couriers", Due.told(works + "couriers 2;").soonest(), 13);
        LentPictures x = Due.told(works + "couriers 3;");
        DUE.is("three couriers", x.soonest(), 10);
        x.send(0, 0);
        DUE.is("one under way home", x.soonest(), 8);
        x.send(5, 0);
        DUE.is("one under way elsewhere", x.soonest(), 90);
        x.undo();
        x.days(1);
        DUE.is("on day 1", x.soonest(), 10);
        DUE.is("all home", Due.told("house a 0 0; work x a a 1 1;").soonest(), 0);
        DUE.is("nothing", new LentPictures().soonest(), 0);
        DUE.is("six of 99", Due.told("house a 0 9; house b 5 9; work u a b 1 7; work v a b 2 6; work w a b 3 5; work x a b 3 4;"
            + "work y a b 3 4; work z a b 3 90; trip = 99;").soonest(), 594);
    }

    public static void main(String[] args) {
        hangings();
        nearestOfAlike();
        quarrels();
        homes();
        oneTripEach();
        homesAnew();
        swaps();
        backs();
        soonest();
        DUE.end();
    }
}
