/** Promises 1 to 5: a new object, feed, back, read, place. */
public final class TapeTest {
    private static final Due DUE = new Due("TapeTest");
    private static final String A = "house a 1 1;";

    private static void newObject() {
        LentPictures x = new LentPictures();
        for (int what = 0; what <= 12; what++) {
            DUE.is("new: count(" + what + ")", x.count(what), 0);
        }
        DUE.is("new: count(-1)", x.count(-1), -1);
        DUE.is("new: count(13)", x.count(13), -1);
        DUE.is("new: place()", x.place(), -1);
        DUE.is("new: house(0, 0)", x.house(0, 0), -1);
        DUE.is("new: work(0, 0)", x.work(0, 0), -1);
        DUE.is("new: undo()", x.undo(), false);
        DUE.is("new: days(99)", x.days(99), 99);
        DUE.is("new: hold(2)", x.hold(2), true);
        DUE.is("new: restore(2)", x.restore(2), true);
    }

    private static void feedAndBack() {
        LentPictures x = new LentPictures();
        DUE.is("back(0) of nothing", x.back(0), 0);
        DUE.is("back(1) of nothing", x.back(1), -1);
        DUE.is("back(-1) of nothing", x.back(-1), -1);
        for (int i = 1; i <= 100; i++) {
            DUE.is("feed " + i, x.feed(0, 0, 0, 0, 0), 20L * i);
        }
        DUE.is("feed 101", x.feed(0, 0, 0, 0, 0), -1);
        DUE.is("count(8)", x.count(8), 2000);
        DUE.is("back(19)", x.back(19), 1981);
        DUE.is("feed on 1981", x.feed(0, 0, 0, 0, 0), -1);
        DUE.is("back(1)", x.back(1), 1980);
        DUE.is("feed on 1980", x.feed(0, 0, 0, 0, 0), 2000);
        DUE.is("back(2001)", x.back(2001), -1);
        DUE.is("back(least)", x.back(Integer.MIN_VALUE), -1);
        DUE.is("back(2000)", x.back(2000), 0);
    }

    /** The highest byte comes first, and a byte above 127 stays the one that it is. */
    private static void bytesInOrder() {
        LentPictures x = new LentPictures();
        x.feed(0x686f7573, 0x65206120, 0x31203220, 0x3bff2020, 0x20202020);
        DUE.is("read() of a byte 255", x.read(), 1);
        DUE.is("place() of a byte 255", x.place(), 13);
        x.feed(0x686f7573, 0x65206120, 0x31203220, 0x3b090a0d, 0x20202020);
        DUE.is("read() with all blanks", x.read(), 0);
        DUE.is("place() without", x.place(), -1);
        DUE.is("house(0, 1)", x.house(0, 1), 2);
    }

    private static void fault(String text, int number, int place) {
        LentPictures x = Due.told("house z 3 4;");
        x.days(2);
        x.hold(1);
        DUE.is("read of <" + text + ">", Due.tell(x, text), number);
        DUE.is("place in <" + text + ">", x.place(), place);
        DUE.is("tape behind <" + text + ">", x.count(8), 0);
        boolean stays = number != 0;
        DUE.is("day behind <" + text + ">", x.count(3), stays ? 2 : 0);
        DUE.is("undo behind <" + text + ">", x.count(9), stays ? 1 : 0);
        DUE.is("slots behind <" + text + ">", x.count(11), stays ? 1 : 0);
        if (stays) {
            DUE.is("house behind <" + text + ">", x.house(0, 1), 4);
        }
    }

    private static void syntax() {
        fault("", 0, -1);
        fault(" \t\n\r", 0, -1);
        fault("house", 1, 5);
        fault("house  ", 1, 7);
        fault("house a 1 1", 1, 11);
        fault("house a 1 1 ", 1, 12);
        fault("house a1 1;", 0, -1);
        fault("housea 1 1;", 1, 0);
        fault("house house 1 1;", 1, 6);
        fault("house day 1 1;", 1, 6);
        fault("house couriers 1 1;", 1, 6);
        fault("house abcdefgh 1 1;", 0, -1);
        fault("house abcdefghi 1 1;", 1, 6);
        fault("house housework 1 1;", 1, 6);
        fault("house A 1 1;", 1, 6);
        fault("house a 0001 1;", 0, -1);
        fault("house a 00001 1;", 1, 8);
        fault("house a 1 1;;", 1, 12);
        fault("house a 1 1; #", 1, 13);
        fault("house a 1 1; house a 1 #", 1, 23);
        fault("trip 3;", 1, 5);
        fault("trip =;", 1, 6);
        fault("trip = 3", 1, 8);
        fault("trip = - 3;", 1, 7);
        fault("trip = (3;", 1, 9);
        fault("trip = 3);", 1, 8);
        fault("trip = 3 < 4;", 1, 9);
        fault("trip = a;", 1, 7);
        fault("trip = 1 + * 2;", 1, 11);
        fault("trip = if 1 < 2 then 3;", 1, 22);
        fault("trip = if 1 + 2 then 3 else 4;", 1, 16);
        fault("trip = (if 1 < 2 then 3 else 4);", 1, 8);
        fault("trip = if 1 < 2 then if 3 < 4 then 5 else 6 else 7;", 1, 21);
        fault("term a 1 = 2;", 1, 9);
        fault("term a 1 < 2 < 3;", 1, 13);
        fault("late day;", 1, 5);
        fault("seed 10000;", 1, 5);
        fault("north;", 1, 0);
        fault("7", 1, 0);
        fault("a house", 1, 0);
        fault("house a 1 1; \u000b", 1, 13);
    }

    private static void room() {
        String five = "house a 1 1;house b 1 1;house c 1 1;house d 1 1;house e 1 1;";
        fault(five, 0, -1);
        fault(five + "house f 1 1;", 2, 60);
        fault(five + "house", 2, 60);
        fault(five + "house #", 2, 60);
        fault(five + "houses", 1, 60);
        fault("#" + five + "house f 1 1;", 1, 0);
        String six = A + "work b a a 1 1;work c a a 1 1;work d a a 1 1;work e a a 1 1;work f a a 1 1;work g a a 1 1;";
        fault(six, 0, -1);
        fault(six + "work h a a 1 1;", 2, six.length());
        String terms = six + "term b 1<2;term b 1<2;term b 1<2;term c 1<2;term b 1<2;term g 1<2;";
        fault(terms, 0, -1);
        fault(terms + "term b 1<2;", 2, terms.length());
        fault("trip = ((((((1))))));", 0, -1);
        fault("trip = (((((((1)))))));", 2, 13);
        fault("trip = if ((((((1)))))) < ((((((1)))))) then ((((((1)))))) else ((((((1))))));", 0, -1);
        fault("trip = if (((((((1))))))) < 2 then 1 else 2;", 2, 16);
        fault("trip = if 1 < (((((((1))))))) then 1 else 2;", 2, 20);
        fault("trip = if 1 < 2 then (((((((1))))))) else 2;", 2, 27);
        fault("trip = if 1 < 2 then 1 else (((((((1)))))));", 2, 34);
        fault("trip = ((((((1)))))) + ((((((2))))));", 0, -1);
        fault("trip = ((((((1))))) + (((2)))) + (1;", 1, 35);
        fault(A + "work b a a 1 1; term b ((((((1 < 2", 1, 43);
        fault(A + "work b a a 1 1; term b ((((((1)))))) < (((((((2", 2, 57);
        String ifs = "trip = if 1<2 then 1 else if 1<2 then 1 else if 1<2 then 1 else if 1<2 then 1 else ";
        fault(ifs + "3;", 0, -1);
        fault(ifs + "if 1<2 then 1 else 3;", 2, ifs.length());
        fault(ifs + "3; likes" + ifs.substring(4) + "3;", 0, -1);
    }

    private static void tokens() {
        String most = "seed 1;".repeat(133);
        fault(most, 0, -1);
        fault(most + "  house", 1, 938);
        fault(most + "  house a", 2, 939);
        fault(most + "  house 1", 1, 939);
        fault(most + "  house a 1 1;", 2, 939);
        fault("couriers 1;" + most, 2, 11 + 7 * 132 + 5);
        fault("trip=1+1;" + "seed 1;".repeat(131) + ";", 1, 9 + 7 * 131);
        fault("house a 1 1; trip = 1;seed 1;seed 1;" + "seed 1;".repeat(129) + "  ", 2, 22 + 130 * 7 + 5);
    }

    private static void meanings() {
        fault(A + "house a 2 2;", 3, 18);
        fault(A + "work a a a 1 1;", 3, 17);
        fault(A + "work b a a 1 1; work b a a 1 1;", 3, 33);
        fault(A + "work b a a 1 1; house b 1 1;", 3, 34);
        fault(A + "work b c a 1 1;", 4, 19);
        fault(A + "work b a c 1 1;", 4, 21);
        fault(A + "work b b a 1 1;", 4, 19);
        fault(A + "work b a a 1 1; work c b a 1 1;", 4, 35);
        fault("work b a a 1 1;" + A, 4, 7);
        fault(A + "term b 1 < 2; work b a a 1 1;", 4, 17);
        fault(A + "term a 1 < 2;", 4, 17);
        fault("house a 10 1;", 5, 8);
        fault("house a 9 10;", 5, 10);
        fault("house a 9 9;", 0, -1);
        fault(A + "work b a a 10 1;", 5, 23);
        fault(A + "work b a a 9 100;", 5, 25);
        fault(A + "work b a a 9 99;", 0, -1);
        fault("late 101;", 5, 5);
        fault("late 100;", 0, -1);
        fault("couriers 0;", 5, 9);
        fault("couriers 4;", 5, 9);
        fault("couriers 3;", 0, -1);
        fault("seed 9999;", 0, -1);
        fault("seed 0;", 0, -1);
        fault("late 0;", 0, -1);
        fault("couriers 1;", 0, -1);
        fault("house a 0 0; work b a a 0 0;", 0, -1);
        fault("late 101; late 1;", 5, 5);
        fault("house a 10 1; house a 1 1;", 5, 8);
        fault(A + "house a 10 1;", 3, 18);
        fault("house a 10 1; house", 1, 19);
        fault("house a 10 1; trip = (((((((1)))))));", 2, 27);
        fault(A + "work b c a 10 100;", 4, 19);
        fault("trip = 9999;", 0, -1);
    }

    /** What the tape has had behind its end does not count. */
    private static void nothingBehindTheEnd() {
        LentPictures x = new LentPictures();
        Due.feed(x, "house a 1 1; houses");
        x.back(1);
        DUE.is("read() of a word cut off", x.read(), 1);
        DUE.is("place() of a word cut off", x.place(), 18);
        Due.feed(x, "seed 100000;");
        x.back(6);
        DUE.is("read() of a number cut off", x.read(), 1);
        DUE.is("place() of a number cut off", x.place(), 6);
        Due.feed(x, " ".repeat(1987) + "house a 1 1; ");
        DUE.is("count(8)", x.count(8), 2000);
        DUE.is("read() of 2,000 bytes", x.read(), 0);
        Due.feed(x, " ".repeat(1995) + "house");
        DUE.is("read() with a word at the end", x.read(), 1);
        DUE.is("place() at the end", x.place(), 2000);
        Due.feed(x, " ".repeat(1994) + "late 7");
        DUE.is("read() with a number at the end", x.read(), 1);
        DUE.is("place() at the end", x.place(), 2000);
    }

    private static void names() {
        String names = "house a 1 1; house aa 1 1; house z 1 1; house az 1 1; house zzzzzzzz 1 1;";
        fault(names, 0, -1);
        fault(names + "work aaaaaaaa az aa 1 1; work aaaaaaa z zzzzzzzz 1 1; work zzzzzzza a a 1 1;", 0, -1);
        fault(names + "work b zzzzzzz a 1 1;", 4, names.length() + 7);
        fault(names + "work zzzzzzzz a a 1 1;", 3, names.length() + 5);
        LentPictures x = Due.told(names + "work aaaaaaaa az aa 0 0; work b z zzzzzzzz 1 1; term b 1 < 2; term aaaaaaaa 1 < 2;");
        DUE.is("owner az", x.work(0, 0), 3);
        DUE.is("in aa", x.work(0, 1), 1);
        DUE.is("owner z", x.work(1, 0), 2);
        DUE.is("in zzzzzzzz", x.work(1, 1), 4);
        DUE.is("terms of b", x.work(1, 7), 1);
        DUE.is("terms of aaaaaaaa", x.work(0, 7), 2);
    }

    /** A text takes the place of all that was told ahead, laws and numbers too. */
    private static void inPlace() {
        LentPictures x = Due.told("house a 1 1; house b 2 2; work c a b 3 40; term c 5 < 4; trip = 7; likes = 8;"
            + "late 100; couriers 3; seed 5;");
        x.send(0, 0);
        x.lift(0, true);
        x.days(3);
        x.list(0, 0, 3);
        x.hold(0);
        String again = "house c 1 1; house d 2 2; work e c d 3 40; term e 5 < 4; trip = 7; likes = 8; late 100; couriers 3;"
            + "seed 5;";
        DUE.is("read again", Due.tell(x, again), 0);
        x.send(0, 0);
        x.list(0, 0, 3);
        x.hold(1);
        DUE.is("read again", Due.tell(x, "house a 1 1; house b 2 2; work c a b 3 40; term c 5 < 4;"), 0);
        int[] want = {2, 1, 1, 0, 0, 0, 0, 1, 0, 0, 0, 0, 0};
        for (int what = 0; what < want.length; what++) {
            DUE.is("read again: count(" + what + ")", x.count(what), want[what]);
        }
        DUE.is("where it is", x.work(0, 1), 1);
        DUE.is("how often sent", x.work(0, 6), 0);
        DUE.is("lent(1, 0)", x.lent(1, 0), 0);
        DUE.is("TRIP if not told", x.trip(0, 0), 3);
        DUE.is("LIKES if not told", x.likes(0, 0), 40);
        DUE.is("LATE if not told", x.send(0, 0), 3);
        DUE.is("restore(0)", x.restore(0), false);
        DUE.is("restore(1)", x.restore(1), false);
        DUE.is("COURIERS if not told", Due.tell(x, "house a 1 1; house b 1 1; work c a b 1 1; work d a b 1 1;"), 0);
        DUE.is("COURIERS if not told", x.soonest(), 6);
        DUE.is("SEED told", Due.tell(x, "house a 1 1; house b 1 1; work c a b 1 1; late 50; seed 7;"), 0);
        int withSeven = x.times(0, 0, 3, 20);
        DUE.is("SEED 0 told", Due.tell(x, "house a 1 1; house b 1 1; work c a b 1 1; late 50; seed 0;"), 0);
        int withNone = x.times(0, 0, 3, 20);
        DUE.is("SEED told", Due.tell(x, "house a 1 1; house b 1 1; work c a b 1 1; late 50; seed 7;"), 0);
        DUE.is("SEED told", Due.tell(x, "house a 1 1; house b 1 1; work c a b 1 1; late 50; seed 7;"), 0);
        DUE.is("SEED not told", Due.tell(x, "house a 1 1; house b 1 1; work c a b 1 1; late 50;"), 0);
        DUE.is("SEED if not told", x.times(0, 0, 3, 20), withNone);
        DUE.is("another SEED is another one", withSeven != withNone, true);
        DUE.is("the last ones told", Due.tell(x, "late 100; trip = 9; house a 1 1; house b 1 1; work c a b 1 1; trip = 4;"
            + "late 0; likes = 1; likes = 2; couriers 3; couriers 1;"), 0);
        DUE.is("the last TRIP and LATE", x.send(0, 0), 4);
        DUE.is("the last LIKES", x.likes(1, 0), 2);
    }

    private static void placeStays() {
        LentPictures x = new LentPictures();
        Due.tell(x, "house a 1");
        DUE.is("place()", x.place(), 9);
        x.days(1);
        Due.feed(x, "house");
        DUE.is("place() with a new tape", x.place(), 9);
        x.back(5);
        DUE.is("read()", x.read(), 0);
        DUE.is("place() behind a good one", x.place(), -1);
    }

    public static void main(String[] args) {
        newObject();
        feedAndBack();
        bytesInOrder();
        syntax();
        room();
        tokens();
        meanings();
        nothingBehindTheEnd();
        names();
        inPlace();
        placeStays();
        DUE.end();
    }
}
