/** Promises 35 to 37: hold, restore, count. */
public final class HeldTest {
    private static final Due DUE = new Due("HeldTest");
    private static final String TEXT = "house a 1 3; house b 1 3; work x b a 1 10; work y b b 1 20; term x 1 < 2;"
        + "term y 1 < 2; late 100; trip = 4;";

    private static void holdAndRestore() {
        LentPictures x = Due.told(TEXT);
        DUE.is("hold(-1)", x.hold(-1), false);
        DUE.is("hold(3)", x.hold(3), false);
        DUE.is("count(11)", x.count(11), 0);
        for (int slot = -1; slot <= 3; slot++) {
            DUE.is("restore(" + slot + ") of nothing", x.restore(slot), false);
        }
        x.send(0, 1);
        x.lift(1, true);
        x.days(2);
        DUE.is("hold(1)", x.hold(1), true);
        DUE.is("count(11)", x.count(11), 1);
        DUE.is("hold is nothing done", x.count(9), 3);
        x.days(20);
        x.send(0, 0);
        x.lift(1, false);
        x.list(0, 0, 1);
        x.feed(1, 2, 3, 4, 5);
        DUE.is("restore(0)", x.restore(0), false);
        DUE.is("count(9) behind no restore", x.count(9), 6);
        DUE.is("restore(1)", x.restore(1), true);
        int[] want = {2, 2, 2, 2, 1, 1, 2, 1, 20, 0, 1, 1, 1};
        for (int what = 0; what < want.length; what++) {
            DUE.is("restored: count(" + what + ")", x.count(what), want[what]);
        }
        DUE.is("restored: work(0, 4)", x.work(0, 4), 1);
        DUE.is("restored: work(0, 5)", x.work(0, 5), 9);
        DUE.is("restored: work(0, 6)", x.work(0, 6), 1);
        DUE.is("restored: lent(0, 1)", x.lent(0, 1), 1);
        DUE.is("restored: lent(1, 0)", x.lent(1, 0), 0);
        DUE.is("undo()", x.undo(), false);
        x.days(50);
        DUE.is("hold(0)", x.hold(0), true);
        DUE.is("hold(2)", x.hold(2), true);
        DUE.is("count(11)", x.count(11), 3);
        for (int slot : new int[] {-1, 3, 32, 33, -32, Integer.MIN_VALUE, Integer.MAX_VALUE}) {
            DUE.is("no such one: restore(" + slot + ")", x.restore(slot), false);
            DUE.is("no such one: hold(" + slot + ")", x.hold(slot), false);
        }
        DUE.is("it stays there", x.restore(1), true);
        DUE.is("count(3)", x.count(3), 2);
        DUE.is("restore(2)", x.restore(2), true);
        DUE.is("count(3)", x.count(3), 52);
        x.days(1);
        DUE.is("hold(2) anew", x.hold(2), true);
        DUE.is("undo()", x.undo(), true);
        DUE.is("restore(2)", x.restore(2), true);
        DUE.is("count(3)", x.count(3), 53);
        DUE.is("restore(0)", x.restore(0), true);
        DUE.is("count(3)", x.count(3), 52);
        x.back(20);
        Due.tell(x, "house a 1 1");
        DUE.is("a text with a fault leaves them", x.count(11), 3);
        Due.tell(x, TEXT);
        DUE.is("a good one does not", x.count(11), 0);
        DUE.is("restore(0)", x.restore(0), false);
    }

    private static void counts() {
        LentPictures x = Due.told(TEXT);
        int[] want = {2, 2, 2, 0, 0, 0, 2, 3, 0, 0, 0, 0, 0};
        for (int what = 0; what < want.length; what++) {
            DUE.is("count(" + what + ")", x.count(what), want[what]);
        }
        x.send(0, 1);
        DUE.is("under way home: count(5)", x.count(5), 1);
        DUE.is("under way home: count(6)", x.count(6), 2);
        x.days(9);
        DUE.is("home: count(5)", x.count(5), 0);
        DUE.is("home: count(6)", x.count(6), 3);
        DUE.is("count(12)", x.count(12), 1);
        DUE.is("count(-1)", x.count(-1), -1);
        DUE.is("count(13)", x.count(13), -1);
        DUE.is("count(greatest)", x.count(Integer.MAX_VALUE), -1);
        DUE.is("count(least)", x.count(Integer.MIN_VALUE), -1);
    }

    public static void main(String[] args) {
        holdAndRestore();
        counts();
        DUE.end();
    }
}
