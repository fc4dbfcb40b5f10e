import java.util.function.Supplier;
import java.util.function.ToLongFunction;

/** Answers that are due by a sentence of the document, each told together with that sentence. */
final class Quoted {
    /** Numbers that are no house, work, term, slot, ... of any object; some are one if cut to a few bits. */
    static final int[] FAR = {-2, 32, 33, 64, 65, 256, -32, -31, -64, 1 << 16, 1 << 30, Integer.MAX_VALUE, Integer.MIN_VALUE,
        Integer.MIN_VALUE + 1};
    /** Something of each kind goes on here: a lifted term, a work under way, one held, lists, a fault, a tape. */
    private static final String BUSY = "house a 4 2; house b 6 3; work x b a 1 10; work y a a 1 20; work z b b 2 30;"
        + "term x many < 2; term z day < 40; trip = 1 + north; likes = value + many; late 50; seed 3; couriers 2;";

    private final Due due;
    private final Doc doc;
    private String sentence = "";
    private int answers = 1;

    Quoted(Due due, Doc doc) {
        this.due = due;
        this.doc = doc;
    }

    /** From here on answers are due by these words; those ahead must have had some. */
    void by(String title, String words) {
        nothingOpen();
        sentence = title + " \"" + words + "\"";
        answers = 0;
        due.is(sentence + " stands in the document", doc == null || doc.quote(title, words), true);
    }

    void nothingOpen() {
        due.is(sentence + " has a test", answers > 0, true);
    }

    void is(String call, long got, long want) {
        answers++;
        due.is(sentence + ": " + call, got, want);
    }

    void is(String call, boolean got, boolean want) {
        is(call, got ? 1 : 0, want ? 1 : 0);
    }

    void same(String what, String got, String want) {
        answers++;
        boolean alike = got.equals(want);
        due.is(sentence + ": " + what + (alike ? "" : " is " + got + ", due is " + want), alike, true);
    }

    /** A text, read by a new object. */
    void fault(String text, int number, int place) {
        LentPictures x = new LentPictures();
        is("read of <" + text + ">", Due.tell(x, text), number);
        is("place in <" + text + ">", x.place(), place);
    }

    void good(String text) {
        fault(text, 0, -1);
    }

    static LentPictures busy() {
        LentPictures x = Due.told(BUSY);
        x.lift(1, true);
        x.send(0, 1);
        x.days(2);
        x.hold(1);
        x.days(1);
        x.list(0, 0, 1);
        x.list(1, 2, 0);
        Due.tell(x, "house a 1");
        Due.feed(x, "house q 3 4; house q 5");
        return x;
    }

    /** A call answers so, and all goes on as if it had not been called. */
    void changesNothing(String call, Supplier<LentPictures> make, ToLongFunction<LentPictures> called, long answer) {
        LentPictures x = make.get();
        is(call, called.applyAsLong(x), answer);
        alike("behind " + call, x, make.get());
    }

    void changesNothing(String call, ToLongFunction<LentPictures> called, long answer) {
        changesNothing(call, Quoted::busy, called, answer);
    }

    /** Whether two objects go on alike: now, undone step by step, and with the text on their tapes. */
    void alike(String when, LentPictures x, LentPictures y) {
        same(when + ", all", Picture.of(x), Picture.of(y));
        boolean undone = true;
        for (int i = 0; i <= 40 && undone; i++) {
            undone = y.undo();
            is(when + ", undo " + i, x.undo(), undone);
            for (int what : new int[] {3, 5, 7, 12}) {
                is(when + ", undo " + i + ", count(" + what + ")", x.count(what), y.count(what));
            }
        }
        for (int slot = 0; slot < 3; slot++) {
            is(when + ", restore(" + slot + ")", x.restore(slot), y.restore(slot));
            is(when + ", restored " + slot + ", the day", x.count(3), y.count(3));
            is(when + ", restored " + slot + ", under way", x.count(5), y.count(5));
        }
        is(when + ", the tape read", x.read(), y.read());
        is(when + ", the tape's place", x.place(), y.place());
        is(when + ", the tape's houses", x.count(0), y.count(0));
    }
}
