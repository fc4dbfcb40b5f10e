import java.util.ArrayList;
import java.util.Arrays;
import java.util.List;
import java.util.Random;

/** Runs by chance, every answer compared with that of the model. */
public final class ModelTest {
    private static int wrong;
    private static long answers;
    private static final int[] FAULTS = new int[6];

    private final Random random;
    private final Texts texts;
    private final LentPictures x = new LentPictures();
    private final Model m = new Model();
    private final List<String> calls = new ArrayList<>();
    private boolean gone;

    private ModelTest(long seed) {
        random = new Random(seed);
        texts = new Texts(random);
    }

    private void same(String call, long got, long want) {
        answers++;
        calls.add(call);
        if (got != want && !gone) {
            gone = true;
            wrong++;
            if (wrong <= 5) {
                System.out.println("behind " + calls.subList(Math.max(0, calls.size() - 60), calls.size()));
                System.out.println("ModelTest: " + call + " answered " + got + ", the model " + want);
            }
        }
    }

    private void same(String call, boolean got, boolean want) {
        same(call, got ? 1 : 0, want ? 1 : 0);
    }

    private int to(int n) {
        return random.nextInt(n);
    }

    /** Mostly 0 .. n - 1, now and then just outside, seldom far off. */
    private int near(int n) {
        switch (to(60)) {
            case 0:
                return to(2) == 0 ? Integer.MIN_VALUE : Integer.MAX_VALUE;
            case 1:
            case 2:
                return -1;
            case 3:
            case 4:
                return n;
            case 5:
                return n + 1;
            default:
                return n == 0 ? 0 : to(n);
        }
    }

    private int aHouse() {
        return near(x.count(0));
    }

    private int aWork() {
        return near(x.count(1));
    }

    private int aTerm() {
        return near(x.count(2));
    }

    private void tell(String text) {
        for (int at = 0; at < text.length(); at += 20) {
            int[] w = new int[5];
            for (int i = 0; i < 20; i++) {
                int c = at + i < text.length() ? text.charAt(at + i) : ' ';
                w[i / 4] = w[i / 4] << 8 | c & 255;
            }
            same("feed", x.feed(w[0], w[1], w[2], w[3], w[4]), m.feed(w[0], w[1], w[2], w[3], w[4]));
        }
        int over = (20 - text.length() % 20) % 20;
        same("back(" + over + ")", x.back(over), m.back(over));
        int fault = m.read();
        FAULTS[fault]++;
        same("read of <" + text + ">", x.read(), fault);
        same("place()", x.place(), m.place());
    }

    private void askPlain() {
        int h = aHouse();
        int o = aHouse();
        int w = aWork();
        int t = aTerm();
        int what = near(8);
        int hWhat = near(5);
        int n = to(3) == 0 ? near(201) : to(20);
        int s = 1 + near(20);
        same("house(" + h + "," + hWhat + ")", x.house(h, hWhat), m.house(h, hWhat));
        same("work(" + w + "," + what + ")", x.work(w, what), m.work(w, what));
        same("may(" + w + "," + h + ")", x.may(w, h), m.may(w, h));
        same("holds(" + t + "," + h + ")", x.holds(t, h), m.holds(t, h));
        same("likes(" + h + "," + w + ")", x.likes(h, w), m.likes(h, w));
        same("trip(" + w + "," + h + ")", x.trip(w, h), m.trip(w, h));
        same("well()", x.well(), m.well());
        same("then(" + w + "," + n + ")", x.then(w, n), m.then(w, n));
        same("times(" + w + "," + h + "," + n + "," + s + ")", x.times(w, h, n, s), m.times(w, h, n, s));
        same("owes(" + h + "," + o + ")", x.owes(h, o), m.owes(h, o));
        same("lent(" + h + "," + o + ")", x.lent(h, o), m.lent(h, o));
        boolean all = random.nextBoolean();
        same("richest(" + all + ")", x.richest(all), m.richest(all));
        int i = near(13);
        same("count(" + i + ")", x.count(i), m.count(i));
        int sw = near(5) - 1;
        same("swaps(" + sw + ")", x.swaps(sw), m.swaps(sw));
        int b = to(3) == 0 ? -1 : near(x.backs(-1));
        same("backs(" + b + ")", x.backs(b), m.backs(b));
        same("soonest()", x.soonest(), m.soonest());
    }

    private void askDear() {
        switch (to(6)) {
            case 0:
                same("hangings()", x.hangings(), m.hangings());
                break;
            case 1:
                int w = to(3) == 0 ? -1 : aWork();
                same("nearest(" + w + ")", x.nearest(w), m.nearest(w));
                break;
            case 2:
                int what = near(2);
                same("quarrel(" + what + ")", x.quarrel(what), m.quarrel(what));
                break;
            case 3:
                same("bad()", x.bad(), m.bad());
                break;
            default:
                boolean kept = random.nextBoolean();
                same("home(" + kept + ")", x.home(kept), m.home(kept));
                break;
        }
    }

    private void askCrates() {
        int c = aWork();
        for (int n = to(5); n > 0; n--) {
            c = aWork();
            int by = near(3);
            int is = near(by == 1 ? 100 : by == 0 ? 10 : x.count(0));
            if (to(4) > 0) {
                is = x.work(aWork(), by == 0 ? 2 : by == 1 ? 3 : 0);
            }
            same("list(" + c + "," + by + "," + is + ")", x.list(c, by, is), m.list(c, by, is));
        }
        int k = near(x.count(10) + 1);
        int w = near(to(2) == 0 ? 21 : 6);
        same("fits(" + k + "," + w + ")", x.fits(k, w), m.fits(k, w));
        same("least(" + k + ")", x.least(k), m.least(k));
        same("sure(" + k + "," + c + ")", x.sure(k, c), m.sure(k, c));
        if (to(40) == 0) {
            same("forget()", x.forget(), m.forget());
        }
    }

    private void doSomething() {
        int r = to(20);
        if (r < 8) {
            int w = aWork();
            int h = aHouse();
            same("send(" + w + "," + h + ")", x.send(w, h), m.send(w, h));
        } else if (r < 11) {
            int t = aTerm();
            boolean lifted = random.nextBoolean();
            same("lift(" + t + "," + lifted + ")", x.lift(t, lifted), m.lift(t, lifted));
        } else if (r < 15) {
            int n = to(3) == 0 ? near(100) : to(6);
            same("days(" + n + ")", x.days(n), m.days(n));
        } else if (r < 17) {
            same("undo()", x.undo(), m.undo());
        } else if (r < 18) {
            int slot = near(3);
            same("hold(" + slot + ")", x.hold(slot), m.hold(slot));
        } else if (r < 19 && to(3) == 0) {
            int slot = near(3);
            same("restore(" + slot + ")", x.restore(slot), m.restore(slot));
        } else if (to(12) == 0) {
            tell(to(2) == 0 ? texts.faulty() : texts.good(4, 5));
        }
    }

    private void run(boolean dear) {
        tell(dear ? texts.good(5, 6) : texts.good(4, 5));
        int steps = dear ? 6 : 30;
        for (int i = 0; i < steps && !gone; i++) {
            doSomething();
            askPlain();
            if (to(3) == 0) {
                askDear();
            }
            if (to(4) == 0) {
                askCrates();
            }
        }
        for (int i = 0; i <= 13; i++) {
            same("count(" + i + ")", x.count(i), m.count(i));
        }
    }

    private void runOfTexts() {
        for (int i = 0; i < 6 && !gone; i++) {
            tell(texts.faulty());
            for (int c = 0; c < 13; c++) {
                same("count(" + c + ")", x.count(c), m.count(c));
            }
        }
    }

    /** Many things done and undone, with seldom a question: what can be undone has an end. */
    private void runOfUndoing() {
        tell(texts.good(4, 5));
        for (int i = 0; i < 120 && !gone; i++) {
            if (i % 60 < 50) {
                doSomething();
            } else {
                same("undo()", x.undo(), m.undo());
            }
            same("count(9)", x.count(9), m.count(9));
            same("count(3)", x.count(3), m.count(3));
            same("work(0, 5)", x.work(0, 5), m.work(0, 5));
        }
    }

    public static void main(String[] args) {
        int runs = args.length > 0 ? Integer.parseInt(args[0]) : 150;
        for (int i = 0; i < runs; i++) {
            new ModelTest(1000L + i).run(false);
            if (i % 5 == 0) {
                new ModelTest(2000000L + i).run(true);
            }
            new ModelTest(4000000L + i).runOfTexts();
            new ModelTest(6000000L + i).runOfUndoing();
        }
        System.out.println("ModelTest: " + answers + " answers, " + wrong + " runs not as the model, texts by fault "
            + Arrays.toString(FAULTS));
        if (wrong != 0) {
            System.exit(1);
        }
    }
}
