/** All that can be asked of an object, as one text, so that two objects are compared at once. */
final class Picture {
    private final LentPictures x;
    private final int houses;
    private final int works;
    private final int terms;
    private final StringBuilder all = new StringBuilder();

    private Picture(LentPictures x) {
        this.x = x;
        houses = x.count(0);
        works = x.count(1);
        terms = x.count(2);
    }

    static String of(LentPictures x) {
        Picture p = new Picture(x);
        p.counts();
        p.askHouses();
        p.askWorks();
        p.wouldBe();
        p.crates();
        return p.all.toString();
    }

    private void add(String call, long answer) {
        all.append(call).append('=').append(answer).append(' ');
    }

    private void counts() {
        for (int what = 0; what <= 12; what++) {
            add("count(" + what + ")", x.count(what));
        }
        add("place()", x.place());
    }

    private void askHouses() {
        for (int h = 0; h < houses; h++) {
            for (int what = 0; what <= 4; what++) {
                add("house(" + h + "," + what + ")", x.house(h, what));
            }
            for (int o = 0; o < houses; o++) {
                if (o != h) {
                    add("owes(" + h + "," + o + ")", x.owes(h, o));
                    add("lent(" + h + "," + o + ")", x.lent(h, o));
                }
            }
            for (int t = 0; t < terms; t++) {
                add("holds(" + t + "," + h + ")", x.holds(t, h));
            }
        }
        add("richest(false)", x.richest(false));
        add("richest(true)", x.richest(true));
    }

    private void askWorks() {
        for (int w = 0; w < works; w++) {
            for (int what = 0; what <= 7; what++) {
                add("work(" + w + "," + what + ")", x.work(w, what));
            }
            for (int h = 0; h < houses; h++) {
                add("may(" + w + "," + h + ")", x.may(w, h));
                add("likes(" + h + "," + w + ")", x.likes(h, w));
                add("trip(" + w + "," + h + ")", x.trip(w, h));
                add("times(" + w + "," + h + ",7,20)", x.times(w, h, 7, 20));
            }
            add("then(" + w + ",3)", x.then(w, 3));
            add("nearest(" + w + ")", x.nearest(w));
        }
    }

    private void wouldBe() {
        add("well()", x.well() ? 1 : 0);
        add("bad()", x.bad());
        add("hangings()", x.hangings());
        add("nearest(-1)", x.nearest(-1));
        add("quarrel(1)", x.quarrel(1));
        add("home(false)", x.home(false));
        add("home(true)", x.home(true));
        add("swaps(-1)", x.swaps(-1));
        add("swaps(2)", x.swaps(2));
        add("backs(-1)", x.backs(-1));
        add("backs(1)", x.backs(1));
        add("soonest()", x.soonest());
    }

    private void crates() {
        int k = x.count(10);
        add("least(k)", x.least(k));
        for (int w = 0; w <= 2; w++) {
            add("fits(k," + w + ")", x.fits(k, w));
        }
        for (int crate = 0; crate < works; crate++) {
            add("sure(k," + crate + ")", x.sure(k, crate));
        }
    }
}
