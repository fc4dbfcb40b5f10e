/** The document's first lines, piece by piece: one small world in which each of them can be seen. */
final class FirstSentences {
    private static final String TITLE = "What it is";
    private static final String HOUSES = "house oak 5 2; house elm 1 2; house ash 9 1;";
    private static final String WORKS = "work mad oak elm 1 30; work dog elm oak 1 10; work sun ash ash 3 50;";
    private static final String WALLS = HOUSES + WORKS + "trip = 2 + value / 20; likes = value - north; couriers 2;";
    private static final String WORLD = WALLS + "term mad north < 4; term dog many < 1;";
    private static final String OWN = HOUSES + WORKS + "likes = value * home;";
    private static final int OAK = 0;
    private static final int ELM = 1;
    private static final int ASH = 2;
    private static final int MAD = 0;
    private static final int DOG = 1;
    private static final int SUN = 2;

    private final Quoted q;

    FirstSentences(Quoted q) {
        this.q = q;
    }

    void all() {
        houses();
        walls();
        works();
        laws();
        lateness();
        texts();
        done();
        mayHang();
        hangings();
        quarrel();
        home();
        exchanges();
        back();
        couriers();
        whose();
        chances();
        crates();
        undone();
    }

    private void houses() {
        q.by(TITLE, "Houses that lend each other pictures:");
        LentPictures x = Due.told(WORLD);
        q.is("HOUSES", x.count(0), 3);
        q.is("mad is sent", x.send(MAD, ASH), 3);
        q.is("sun is sent", x.send(SUN, ELM), 4);
        q.is("lent by elm to ash", x.lent(ELM, ASH), 1);
        q.is("lent by ash to elm", x.lent(ASH, ELM), 1);
        q.is("lent by oak to ash", x.lent(OAK, ASH), 0);
    }

    private void walls() {
        q.by(TITLE, "walls with room,");
        LentPictures x = Due.told(WALLS);
        q.is("ash has room for one", x.house(ASH, 1), 1);
        q.is("that is sun", x.may(SUN, ASH), 1);
        q.is("mad has none there", x.may(MAD, ASH), 0);
        q.is("mad has room in oak, beside dog", x.may(MAD, OAK), 1);
        x.send(SUN, OAK);
        q.is("mad has room in ash when sun is gone", x.may(MAD, ASH), 1);
    }

    private void works() {
        q.by(TITLE, "works with an owner and terms that travel with them,");
        LentPictures x = Due.told(WORLD);
        int[] owners = {OAK, ELM, ASH};
        for (int work = 0; work < 3; work++) {
            q.is("the owner of " + work, x.work(work, 0), owners[work]);
        }
        q.is("mad's terms in elm", x.work(MAD, 7), 1);
        q.is("it is well there", x.well(), true);
        x.send(MAD, OAK);
        q.is("mad's terms under way", x.work(MAD, 7), 1);
        q.is("on which day it is bad", x.bad(), 3);
        x.days(3);
        q.is("mad's terms in oak", x.work(MAD, 7), 1);
        q.is("they do not hold there", x.holds(0, OAK), 0);
        q.is("it is well there", x.well(), false);
        q.is("the owner is the same", x.work(MAD, 0), OAK);
    }

    private void laws() {
        q.by(TITLE, "laws of how long a trip is, of what a house likes,");
        LentPictures x = Due.told(WORLD);
        int[] trips = {3, 2, 4};
        int[] values = {30, 10, 50};
        int[] norths = {5, 1, 9};
        for (int work = 0; work < 3; work++) {
            for (int house = 0; house < 3; house++) {
                q.is("trip(" + work + ", " + house + ")", x.trip(work, house), trips[work]);
                q.is("likes(" + house + ", " + work + ")", x.likes(house, work), values[work] - norths[house]);
            }
        }
    }

    private void lateness() {
        q.by(TITLE, "lateness by a seed,");
        int lates = 0;
        for (int seed = 0; seed < 200; seed++) {
            LentPictures x = Due.told(WORLD + "late 50; seed " + seed + ";");
            boolean late = lot(seed, 0) < 50;
            q.is("seed " + seed + ": mad is in ash on", x.send(MAD, ASH), late ? 8 : 3);
            q.is("seed " + seed + ": late", x.count(12), late ? 1 : 0);
            lates += late ? 1 : 0;
        }
        q.is("some are late, some are not", lates > 0 && lates < 200, true);
    }

    /** LOT 100, in longs cut to 32 bits, unlike the class, whose ints wrap by themselves. */
    private static long lot(long seed, long which) {
        long h = seed;
        for (long it : new long[] {83, which}) {
            h = (h ^ it) * 1103515245L + 12345 & 0xffffffffL;
            h ^= h >> 15;
        }
        return (h >> 1) % 100;
    }

    private void texts() {
        q.by(TITLE, "told as texts;");
        LentPictures x = new LentPictures();
        q.is("a good one", Due.tell(x, WORLD), 0);
        q.is("WORKS", x.count(1), 3);
        q.is("a bad one", Due.tell(x, WORLD + "house"), 1);
        q.is("its place", x.place(), WORLD.length() + 5);
        q.is("WORKS", x.count(1), 3);
    }

    private void done() {
        q.by(TITLE, "works sent, days gone through, terms lifted;");
        LentPictures x = Due.told(WORLD);
        q.is("dog is sent", x.send(DOG, ELM), 2);
        q.is("under way", x.count(5), 1 << DOG);
        q.is("a day", x.days(1), 1);
        q.is("under way", x.work(DOG, 1), -2);
        q.is("a day more", x.days(1), 2);
        q.is("there", x.work(DOG, 1), ELM);
        q.is("well", x.well(), false);
        q.is("lifted", x.lift(1, true), true);
        q.is("well", x.well(), true);
        q.is("stands again", x.lift(1, false), true);
        q.is("well", x.well(), false);
    }

    private void mayHang() {
        q.by(TITLE, "where a work may hang,");
        LentPictures x = Due.told(WORLD);
        int[][] may = {{0, 1, 0}, {1, 0, 0}, {1, 1, 1}};
        for (int work = 0; work < 3; work++) {
            for (int house = 0; house < 3; house++) {
                q.is("may(" + work + ", " + house + ")", x.may(work, house), may[work][house]);
            }
        }
    }

    private void hangings() {
        q.by(TITLE, "the hangings that keep all terms and which is nearest,");
        LentPictures x = Due.told(WORLD);
        q.is("mad in elm, dog alone", x.hangings(), 4);
        q.is("as it is", x.nearest(-1), 0);
        x.send(DOG, ASH);
        x.days(2);
        q.is("mad in elm, dog alone", x.hangings(), 4);
        q.is("one elsewhere", x.nearest(-1), 1);
        q.is("mad", x.nearest(MAD), ELM);
        q.is("dog", x.nearest(DOG), OAK);
        q.is("sun", x.nearest(SUN), ASH);
    }

    private void quarrel() {
        q.by(TITLE, "a smallest set of terms that can't be kept,");
        LentPictures x = Due.told(WALLS + "term sun 1 < 2; term mad north < 4; term dog north < 4; term mad many < 1;");
        q.is("how many", x.quarrel(0), 3);
        q.is("which", x.quarrel(1), 14);
        for (int term = 1; term <= 3; term++) {
            x.lift(term, true);
            q.is("without " + term, x.quarrel(0), -2);
            x.lift(term, false);
        }
        x.lift(0, true);
        q.is("without 0", x.quarrel(1), 14);
    }

    private void home() {
        q.by(TITLE, "all home again by fewest trips,");
        LentPictures x = Due.told(WORLD);
        q.is("mad to oak, dog to elm", x.home(false), 2);
        q.is("mad may not hang at home", x.home(true), -2);
        x.lift(0, true);
        q.is("dog alone: sun to elm, dog to ash, mad to oak, sun to oak, dog to elm, sun to ash", x.home(true), 6);
        x.lift(1, true);
        q.is("no terms", x.home(true), 2);
    }

    private void exchanges() {
        q.by(TITLE, "exchanges good for both,");
        LentPictures x = Due.told(OWN);
        q.is("mad for dog", x.swaps(-1), 1);
        q.is("mad", x.swaps(0), MAD);
        q.is("dog", x.swaps(1), DOG);
        q.is("30 for oak, 10 for elm", x.swaps(2), 40);
        q.is("by value alone one has less of it", Due.told(WORLD).swaps(-1), 0);
    }

    private void back() {
        q.by(TITLE, "who had better send back what is not its own,");
        LentPictures x = Due.told(WORLD);
        q.is("oak and elm like what they have", x.backs(-1), 2);
        q.is("no house", x.backs(0), 0);
        q.is("ash, which has nothing to send", x.backs(1), 1 << ASH);
        q.is("who likes its own alone may as well", Due.told(OWN).backs(-1), 8);
    }

    private void couriers() {
        q.by(TITLE, "how soon couriers bring all home,");
        q.is("two", Due.told(WORLD).soonest(), 3);
        q.is("one", Due.told(WORLD + "couriers 1;").soonest(), 5);
    }

    private void whose() {
        q.by(TITLE, "whose a work is by whom,");
        LentPictures x = Due.told(WORLD);
        q.is("oak's in elm", x.owes(ELM, OAK), 1 << MAD);
        q.is("elm's in oak", x.owes(OAK, ELM), 1 << DOG);
        q.is("ash's in oak", x.owes(OAK, ASH), 0);
        x.send(SUN, OAK);
        q.is("ash's under way to oak", x.owes(OAK, ASH), 1 << SUN);
    }

    private void chances() {
        q.by(TITLE, "chances of being late;");
        for (int seeds = 1; seeds <= 20; seeds++) {
            LentPictures x = Due.told(WORLD + "late 50; seed 4321;");
            int soon = 0;
            for (int i = 0; i < seeds; i++) {
                soon += lot(4321 + i, 0) < 50 ? 0 : 1;
            }
            q.is(seeds + " seeds, 2 days", x.times(MAD, ASH, 2, seeds), 0);
            q.is(seeds + " seeds, 3 days", x.times(MAD, ASH, 3, seeds), soon);
            q.is(seeds + " seeds, 7 days", x.times(MAD, ASH, 7, seeds), soon);
            q.is(seeds + " seeds, 8 days", x.times(MAD, ASH, 8, seeds), seeds);
        }
    }

    private void crates() {
        q.by(TITLE, "what is in which crate, by lists that disagree;");
        LentPictures x = Due.told(WORLD);
        x.list(0, 0, 1);
        x.list(0, 0, 3);
        q.is("one of two is wrong", x.least(2), 1);
        q.is("any work may be in crate 0", x.fits(2, 1), 6);
        q.is("this or that", x.sure(2, 0), -2);
        x.list(0, 1, 30);
        q.is("one of three is wrong", x.least(3), 1);
        q.is("mad in crate 0", x.fits(3, 1), 2);
        q.is("another one", x.fits(3, 2), 4);
        q.is("mad", x.sure(3, 0), MAD);
        q.is("this or that", x.sure(3, 1), -2);
    }

    private void undone() {
        q.by(TITLE, "all undone, held, gone on from.");
        LentPictures x = Due.told(WORLD + "late 50;");
        String begun = Picture.of(x);
        x.send(MAD, OAK);
        x.days(2);
        x.lift(0, true);
        q.is("things that can be undone", x.count(9), 3);
        for (int i = 0; i < 3; i++) {
            q.is("undo", x.undo(), true);
        }
        q.same("all undone", Picture.of(x), begun);
        x.send(SUN, OAK);
        x.days(1);
        q.is("hold", x.hold(2), true);
        q.is("things that can be undone", x.count(9), 2);
        x.restore(2);
        String held = Picture.of(x);
        x.send(DOG, ASH);
        x.days(50);
        x.lift(1, true);
        q.is("restore", x.restore(2), true);
        q.same("gone on from", Picture.of(x), held);
        q.is("sun is where it goes", x.work(SUN, 4), OAK);
        q.is("the day", x.days(10), 11);
        q.is("sun is there", x.work(SUN, 1), OAK);
    }
}
