/** Promises 6 to 17: what is, and what is done. */
public final class NowTest {
    private static final Due DUE = new Due("NowTest");

    /** Two houses, four works; x and y of one kind in a, z and u in b; u is at its owner's. */
    private static final String FOUR = "house a 4 3; house b 6 2; work x b a 1 10; work y b a 1 20; work z a b 2 30;"
        + "work u b b 1 90;";

    private static void houses() {
        LentPictures x = Due.told(FOUR + "likes = value + many * 3 + same * 10 + home * 5 - which;");
        DUE.is("house(0, 0)", x.house(0, 0), 4);
        DUE.is("house(1, 0)", x.house(1, 0), 6);
        DUE.is("house(0, 1)", x.house(0, 1), 3);
        DUE.is("house(1, 1)", x.house(1, 1), 2);
        DUE.is("house(0, 2)", x.house(0, 2), 3);
        DUE.is("house(1, 2)", x.house(1, 2), 12);
        DUE.is("house(0, 3)", x.house(0, 3), 4);
        DUE.is("house(1, 3)", x.house(1, 3), 11);
        DUE.is("house(0, 4)", x.house(0, 4), 10 + 3 + 10 + 20 + 3 + 10);
        DUE.is("house(1, 4)", x.house(1, 4), 30 + 3 - 1 + 90 + 3 + 5 - 1);
        DUE.is("house(0, 5)", x.house(0, 5), -1);
        DUE.is("house(0, -1)", x.house(0, -1), -1);
        DUE.is("house(2, 0)", x.house(2, 0), -1);
        DUE.is("house(-1, 0)", x.house(-1, 0), -1);
        DUE.is("likes(1, 0)", x.likes(1, 0), 10 + 6 + 10 + 5 - 1);
        DUE.is("likes(0, 2)", x.likes(0, 2), 30 + 6 + 5);
        DUE.is("likes(0, 3)", x.likes(0, 3), 99);
        DUE.is("likes(2, 0)", x.likes(2, 0), -1);
        DUE.is("likes(0, 4)", x.likes(0, 4), -1);
        DUE.is("likes(0, -1)", x.likes(0, -1), -1);
        DUE.is("likes(-1, 0)", x.likes(-1, 0), -1);
        x.send(1, 1);
        DUE.is("house(0, 2) behind send", x.house(0, 2), 1);
        DUE.is("house(0, 4) behind send", x.house(0, 4), 10);
        DUE.is("house(1, 2) behind send", x.house(1, 2), 12);
        DUE.is("likes(0, 1) behind send", x.likes(0, 1), 20 + 3 + 10);
        LentPictures low = Due.told(FOUR + "likes = 0 - 5;");
        DUE.is("likes below 0", low.likes(0, 0), 0);
    }

    private static void works() {
        LentPictures x = Due.told(FOUR + "term z 1 < 2; term x 2 < 1; term z 1 < 3; trip = 6;");
        int[][] want = {{1, 0, 1, 10, -2, -2, 0, 2}, {1, 0, 1, 20, -2, -2, 0, 0}, {0, 1, 2, 30, -2, -2, 0, 5},
            {1, 1, 1, 90, -2, -2, 0, 0}};
        for (int work = 0; work < 4; work++) {
            for (int what = 0; what < 8; what++) {
                DUE.is("work(" + work + ", " + what + ")", x.work(work, what), want[work][what]);
            }
        }
        DUE.is("work(0, 8)", x.work(0, 8), -1);
        DUE.is("work(0, -1)", x.work(0, -1), -1);
        DUE.is("work(4, 0)", x.work(4, 0), -1);
        DUE.is("work(-1, 0)", x.work(-1, 0), -1);
        x.days(2);
        x.send(2, 0);
        x.lift(0, true);
        DUE.is("under way: work(2, 1)", x.work(2, 1), -2);
        DUE.is("under way: work(2, 4)", x.work(2, 4), 0);
        DUE.is("under way: work(2, 5)", x.work(2, 5), 8);
        DUE.is("under way: work(2, 6)", x.work(2, 6), 1);
        DUE.is("lifted: work(2, 7)", x.work(2, 7), 4);
        x.days(5);
        DUE.is("day 7: work(2, 1)", x.work(2, 1), -2);
        x.days(1);
        DUE.is("day 8: work(2, 1)", x.work(2, 1), 0);
        DUE.is("day 8: work(2, 4)", x.work(2, 4), -2);
        DUE.is("day 8: work(2, 5)", x.work(2, 5), -2);
        x.send(2, 1);
        DUE.is("sent twice: work(2, 6)", x.work(2, 6), 2);
    }

    private static void mayAndHolds() {
        LentPictures x = Due.told(FOUR + "term x same < 2 - which; term x north + home < 7; term z day < 3;");
        DUE.is("holds(0, 0)", x.holds(0, 0), 1);
        DUE.is("holds(0, 1): as if it were there", x.holds(0, 1), 0);
        DUE.is("holds(1, 0)", x.holds(1, 0), 1);
        DUE.is("holds(1, 1)", x.holds(1, 1), 0);
        DUE.is("holds(3, 0)", x.holds(3, 0), -1);
        DUE.is("holds(-1, 0)", x.holds(-1, 0), -1);
        DUE.is("holds(0, 2)", x.holds(0, 2), -1);
        DUE.is("holds(0, -1)", x.holds(0, -1), -1);
        DUE.is("may(0, 0)", x.may(0, 0), 1);
        DUE.is("may(0, 1)", x.may(0, 1), 0);
        DUE.is("may(1, 1): no room", x.may(1, 1), 0);
        DUE.is("may(2, 0)", x.may(2, 0), 1);
        DUE.is("may(3, 1): room but for itself", x.may(3, 1), 1);
        DUE.is("may(4, 0)", x.may(4, 0), -1);
        DUE.is("may(-1, 0)", x.may(-1, 0), -1);
        DUE.is("may(0, 2)", x.may(0, 2), -1);
        DUE.is("may(0, -1)", x.may(0, -1), -1);
        x.days(3);
        DUE.is("day 3: may(2, 0)", x.may(2, 0), 0);
        x.lift(2, true);
        DUE.is("lifted: holds(2, 0)", x.holds(2, 0), 0);
        DUE.is("lifted: may(2, 0)", x.may(2, 0), 1);
        x.send(3, 0);
        DUE.is("behind send: may(1, 1)", x.may(1, 1), 1);
        DUE.is("behind send: holds(0, 1)", x.holds(0, 1), 1);
        LentPictures none = Due.told("house a 1 0; work x a a 1 1;");
        DUE.is("no walls: may(0, 0)", none.may(0, 0), 0);
        DUE.is("no walls: well()", none.well(), false);
    }

    private static int likesBy(String law) {
        return Due.told("house a 7 3; house b 2 5; work x b b 4 60; work y a b 4 1; likes =" + law + ";").likes(1, 0);
    }

    private static void laws() {
        DUE.is("variables", likesBy("north * 10 + walls"), 25);
        DUE.is("variables", likesBy("kind * 20 + same * 2 + many * 3 + home + which + day"), 87);
        DUE.is("* ahead of +", likesBy("2 + 3 * 4"), 14);
        DUE.is("from the left", likesBy("20 - 5 - 3"), 12);
        DUE.is("from the left", likesBy("60 / 5 / 4 * 2"), 6);
        DUE.is("brackets", likesBy("(2 + 3) * (9 - 4)"), 25);
        DUE.is("/ towards 0", likesBy("10 - (0 - 7) / 2"), 13);
        DUE.is("wraps", likesBy("9999 * 9999 * 9999 / 9999 / 100"), 0);
        DUE.is("wraps", likesBy("50 + (9999 * 9999 * 9999 - 9999 * 9999 * 9999)"), 50);
        DUE.is("wraps", likesBy("(9999 * 9999 * 22 + 9999) / 99999".replace("99999", "9999 / 9999 * 0 - 5")), 0);
        DUE.is("wraps below", likesBy("if 9999 * 9999 * 22 < 0 then 1 else 2"), 1);
        DUE.is("divided by 0", likesBy("50 + 1 / day"), 0);
        DUE.is("0 times it", likesBy("50 + 0 * (1 / day)"), 0);
        DUE.is("first if", likesBy("if 1 < 2 then 11 else if 1 < 2 then 22 else 33"), 11);
        DUE.is("second if", likesBy("if 2 < 2 then 11 else if 1 < 2 then 22 else 33"), 22);
        DUE.is("no if", likesBy("if 3 < 2 then 11 else if 2 < 2 then 22 else 33"), 33);
        DUE.is("not looked at", likesBy("if 1 < 2 then 11 else 1 / 0"), 11);
        DUE.is("not looked at", likesBy("if 2 < 2 then 1 / 0 else 33"), 33);
        DUE.is("not looked at", likesBy("if 1 < 2 then 11 else if 1 / 0 < 1 then 2 else 3"), 11);
        DUE.is("looked at", likesBy("if 1 / 0 < 1 then 11 else 33"), 0);
        DUE.is("looked at", likesBy("if 2 < 1 then 1 else if 1 < 1 / 0 then 11 else 33"), 0);
        DUE.is("looked at", likesBy("if 1 < 2 then 1 / 0 else 33"), 0);
        DUE.is("four ifs", likesBy("if 1<1 then 1 else if 1<1 then 2 else if 1<1 then 3 else if 0<1 then 4 else 5"), 4);
        DUE.is("deep", likesBy("1+2*(1+2*(1+2*(1+2*(1+2*(1+2*(1))))))-50".replace("*(1)", "*1")), 77);
        DUE.is("deepest", likesBy("1*(1+1*(1+1*(1+1*(1+1*(1+1*(1+1*9))))))"), 15);
        LentPictures x = Due.told("house a 1 1; work x a a 1 1; term x 1 / day < 1; term x 1 < 5 / day; term x 0 - 1 < 1 / day;");
        DUE.is("an E of a term divided by 0 is 0", x.holds(0, 0), 1);
        DUE.is("an E of a term divided by 0 is 0", x.holds(1, 0), 0);
        DUE.is("the other E is not", x.holds(2, 0), 1);
        x.days(1);
        DUE.is("day 1", x.holds(0, 0), 0);
        DUE.is("day 1", x.holds(1, 0), 1);
    }

    private static void trips() {
        LentPictures x = Due.told(FOUR + "trip = value / 10 + north * 5 + walls + many * 50 + same * 50 + home * 2 + which + day;");
        DUE.is("trip(0, 0)", x.trip(0, 0), 1 + 20 + 3);
        DUE.is("trip(0, 1)", x.trip(0, 1), 1 + 30 + 2 + 2 + 1);
        DUE.is("trip(2, 1)", x.trip(2, 1), 3 + 30 + 2 + 1);
        DUE.is("trip(4, 0)", x.trip(4, 0), -1);
        DUE.is("trip(0, 2)", x.trip(0, 2), -1);
        DUE.is("trip(-1, 0)", x.trip(-1, 0), -1);
        DUE.is("trip(0, -1)", x.trip(0, -1), -1);
        x.days(10);
        DUE.is("day 10: trip(0, 0)", x.trip(0, 0), 34);
        DUE.is("held to 99", Due.told(FOUR + "trip = 100;").trip(0, 0), 99);
        DUE.is("held to 1", Due.told(FOUR + "trip = 0;").trip(0, 0), 1);
        DUE.is("divided by 0", Due.told(FOUR + "trip = 9 / 0;").trip(0, 0), 1);
    }

    private static long lot(long seed, long which) {
        long h = seed;
        for (long it : new long[] {83, which}) {
            h = (h ^ it) * 1103515245L + 12345 & 0xffffffffL;
            h ^= h / 32768;
        }
        return h / 2 % 100;
    }

    private static void sends() {
        LentPictures x = Due.told(FOUR + "late 40; seed 4711; trip = 2 + day;");
        DUE.is("send(4, 0)", x.send(4, 0), -1);
        DUE.is("send(-1, 0)", x.send(-1, 0), -1);
        DUE.is("send(0, 2)", x.send(0, 2), -1);
        DUE.is("send(0, -1)", x.send(0, -1), -1);
        DUE.is("send(0, 0): it is there", x.send(0, 0), -2);
        DUE.is("nothing happened", x.count(9) + x.count(4), 0);
        int late = 0;
        for (int i = 0; i < 30; i++) {
            int day = x.count(3);
            int to = 1 - x.work(i % 4, 1);
            boolean isLate = lot(4711, 8L * i) < 40;
            late += isLate ? 1 : 0;
            int days = Math.min(99, 2 + day) + (isLate ? 5 : 0);
            DUE.is("trip " + i, x.send(i % 4, to), day + days);
            DUE.is("under way: send", x.send(i % 4, 1 - to), -2);
            DUE.is("under way: send there", x.send(i % 4, to), -2);
            DUE.is("count(12)", x.count(12), late);
            DUE.is("count(4)", x.count(4), i + 1);
            x.days(99);
            x.days(5);
        }
        DUE.is("some are late", late > 5 && late < 25, true);
    }

    private static void lifts() {
        LentPictures x = Due.told(FOUR + "term x 2 < 1; term y 1 < 2;");
        DUE.is("lift(2, true)", x.lift(2, true), false);
        DUE.is("lift(-1, true)", x.lift(-1, true), false);
        DUE.is("lift(0, false)", x.lift(0, false), false);
        DUE.is("well()", x.well(), false);
        DUE.is("lift(0, true)", x.lift(0, true), true);
        DUE.is("lift(0, true) again", x.lift(0, true), false);
        DUE.is("well()", x.well(), true);
        DUE.is("count(7)", x.count(7), 2);
        DUE.is("count(2)", x.count(2), 2);
        DUE.is("lift(0, false)", x.lift(0, false), true);
        DUE.is("count(7)", x.count(7), 3);
        DUE.is("count(9)", x.count(9), 2);
    }

    private static void daysAndUndo() {
        LentPictures x = Due.told(FOUR + "late 100;");
        DUE.is("days(-1)", x.days(-1), -1);
        DUE.is("days(100)", x.days(100), -1);
        DUE.is("days(0)", x.days(0), 0);
        DUE.is("count(9)", x.count(9), 0);
        DUE.is("days(99)", x.days(99), 99);
        DUE.is("days(0)", x.days(0), 99);
        DUE.is("days(1)", x.days(1), 100);
        DUE.is("send(0, 1)", x.send(0, 1), 108);
        DUE.is("days(8)", x.days(8), 108);
        DUE.is("work(0, 1)", x.work(0, 1), 1);
        DUE.is("undo days", x.undo(), true);
        DUE.is("work(0, 1)", x.work(0, 1), -2);
        DUE.is("lent(0, 1)", x.lent(0, 1), 1);
        DUE.is("undo send", x.undo(), true);
        DUE.is("work(0, 1)", x.work(0, 1), 0);
        DUE.is("work(0, 6)", x.work(0, 6), 0);
        DUE.is("lent(0, 1)", x.lent(0, 1), 0);
        DUE.is("count(4)", x.count(4), 0);
        DUE.is("count(12)", x.count(12), 0);
        DUE.is("undo days", x.undo(), true);
        DUE.is("count(3)", x.count(3), 99);
        DUE.is("undo days", x.undo(), true);
        DUE.is("count(3)", x.count(3), 0);
        DUE.is("undo nothing", x.undo(), false);
        for (int i = 0; i < 45; i++) {
            x.days(1);
        }
        DUE.is("45 done: count(9)", x.count(9), 40);
        for (int i = 0; i < 40; i++) {
            DUE.is("undo " + i, x.undo(), true);
        }
        DUE.is("undo the 41st", x.undo(), false);
        DUE.is("count(3)", x.count(3), 5);
    }

    private static void wellAndBad() {
        LentPictures x = Due.told("house a 1 1; house b 1 1; work x a a 1 1; work y b b 1 1; trip = 7; term x day < 250;");
        DUE.is("well()", x.well(), true);
        DUE.is("bad()", x.bad(), -2);
        x.days(49);
        DUE.is("day 49: bad()", x.bad(), -2);
        x.days(1);
        DUE.is("day 50: bad() is told from now", x.bad(), 200);
        x.send(0, 1);
        DUE.is("under way: well()", x.well(), true);
        DUE.is("two in one: bad()", x.bad(), 7);
        x.days(7);
        DUE.is("day 57: well()", x.well(), false);
        DUE.is("day 57: bad()", x.bad(), 0);
        x.send(1, 0);
        DUE.is("gone: well()", x.well(), true);
        DUE.is("gone: bad()", x.bad(), 193);
        x.lift(0, true);
        DUE.is("lifted: bad()", x.bad(), -2);
    }

    public static void main(String[] args) {
        houses();
        works();
        mayAndHolds();
        laws();
        trips();
        sends();
        lifts();
        daysAndUndo();
        wellAndBad();
        DUE.end();
    }
}
