/** How long an object is used, "Terms", IV (crates), and promises 30 to 37. */
final class HeldSentences {
    private static final String TERMS = "Terms";
    private static final String THREE = "house a 1 1; house b 1 1; work x a a 1 10; work y a b 1 20; work z b b 9 99;";
    private static final String SIX = "house a 1 9; house b 1 9; work u a a 0 0; work v a a 1 20; work w a a 2 40; work x a a 3 60;"
        + "work y a a 4 80; work z b a 9 99;";

    private final Quoted q;

    HeldSentences(Quoted q) {
        this.q = q;
    }

    void all() {
        calls();
        crates();
        lists();
        known();
        fits();
        least();
        sure();
        askList();
        askForget();
        askFits();
        askLeast();
        askSure();
        hold();
        restore();
        restoreRefused();
        count();
    }

    private static int[] outside(int size) {
        return LawSentences.outside(size);
    }

    // ---- how long an object is used

    private void calls() {
        q.by("What it is", "An object is used for at most 512 calls after it has been made; what later calls answer is free.");
        LentPictures days = new LentPictures();
        for (int i = 1; i <= 511; i++) {
            q.is("days " + i, days.days(99), 99L * i);
        }
        q.is("the 512th call", days.count(3), 511 * 99);
        LentPictures sent = Due.told("house a 1 1; house b 1 1; work x a a 1 1; trip = 99;");
        for (int i = 1; i <= 250; i++) {
            q.is("send " + i, sent.send(0, i % 2), 99L * i);
            sent.days(99);
        }
        q.is("TRIPS", sent.count(4), 250);
        q.is("SENT", sent.work(0, 6), 250);
        q.is("things that can be undone", sent.count(9), 40);
        LentPictures lifted = Due.told("house a 1 1; work x a a 1 1; term x 1 < 2;");
        for (int i = 1; i <= 500; i++) {
            q.is("lift " + i, lifted.lift(0, i % 2 == 1), true);
        }
        q.is("TERMS that stand", lifted.count(7), 1);
        LentPictures read = new LentPictures();
        for (int i = 1; i <= 126; i++) {
            Due.feed(read, i % 2 == 0 ? "house" : "house a 1 1;");
            q.is("read " + i, read.read(), i % 2 == 0 ? 1 : 0);
        }
        q.is("HOUSES", read.count(0), 1);
        LentPictures told = Due.told(THREE);
        for (int i = 0; i < 490; i++) {
            q.is("list " + i, told.list(0, 0, 1), i < 20 ? i : -1);
        }
        q.is("LISTS", told.forget(), 20);
        LentPictures held = new LentPictures();
        for (int i = 0; i < 510; i++) {
            q.is("hold " + i, i % 2 == 0 ? held.hold(i % 3) : held.restore(i % 3 == 0 ? 2 : i % 3 - 1), true);
        }
        q.is("SLOTS", held.count(11), 3);
    }

    // ---- IV

    private void crates() {
        q.by(TERMS, "CRATES: numbers 0 .. as many as there are WORKS, less 1; in each is another WORK, nobody knows which.");
        for (int works = 0; works <= 6; works++) {
            StringBuilder text = new StringBuilder("house a 1 9;");
            int ways = 1;
            for (int w = 0; w < works; w++) {
                text.append(" work ").append((char) ('u' + w)).append(" a a ").append(w).append(" 1;");
                ways *= w + 1;
            }
            LentPictures x = Due.told(text.toString());
            q.is(works + " WORKS: ways", x.fits(0, 0), ways);
            q.is(works + " WORKS: CRATE " + works, x.list(works, 0, 1), -1);
            q.is(works + " WORKS: CRATE -1", x.list(-1, 0, 1), -1);
            q.is(works + " WORKS: sure(0, " + works + ")", x.sure(0, works), -1);
            if (works > 0) {
                q.is(works + " WORKS: nobody knows", x.sure(0, works - 1), works == 1 ? 0 : -2);
                q.is(works + " WORKS: CRATE " + (works - 1), x.list(works - 1, 0, 1), 0);
            }
        }
        LentPictures each = Due.told(SIX);
        for (int crate = 0; crate < 5; crate++) {
            each.list(crate, 1, crate * 20);
        }
        q.is("another WORK in each: the last one", each.sure(5, 5), 5);
        q.is("another WORK in each: one way", each.fits(5, 0), 1);
    }

    private void lists() {
        q.by(TERMS, "LISTS, 20 at most, numbered from 0 on, tell of a CRATE that it has a WORK of a KIND, of a VALUE, of an owner;");
        LentPictures x = Due.told(SIX);
        for (int i = 0; i < 20; i++) {
            q.is("LIST " + i, x.list(i % 6, 0, 5), i);
        }
        q.is("a 21st", x.list(0, 0, 5), -1);
        q.is("LISTS", x.count(10), 20);
        int[][] told = {{0, 3, 3}, {1, 60, 3}, {2, 1, 5}, {0, 9, 5}, {1, 99, 5}, {1, 0, 0}, {0, 0, 0}};
        for (int[] row : told) {
            LentPictures y = Due.told(SIX);
            y.list(2, row[0], row[1]);
            q.is("by " + row[0] + " is " + row[1], y.sure(1, 2), row[2]);
            q.is("by " + row[0] + " is " + row[1] + ": ways", y.fits(1, 0), 120);
        }
    }

    private void known() {
        q.by(TERMS, "KNOWN by k: the first k.");
        LentPictures x = Due.told(THREE);
        x.list(0, 0, 9);
        x.list(1, 1, 20);
        x.list(1, 2, 1);
        int[] ways = {6, 2, 1, 0};
        for (int k = 0; k < 4; k++) {
            q.is("fits(" + k + ", 0)", x.fits(k, 0), ways[k]);
        }
        q.is("sure(1, 1)", x.sure(1, 1), -2);
        q.is("sure(2, 1)", x.sure(2, 1), 1);
        q.is("least(2)", x.least(2), 0);
        q.is("least(3)", x.least(3), 1);
        q.is("k is one too many", x.fits(4, 0), -1);
    }

    private void fits() {
        q.by(TERMS, "FITS: ways in which CRATES have WORKS, so that just w LISTS (0 .. 20) of those are wrong: how many;");
        LentPictures x = Due.told(THREE);
        x.list(0, 0, 9);
        x.list(1, 1, 20);
        x.list(1, 2, 1);
        int[] ways = {0, 1, 4, 1};
        for (int w = 0; w <= 20; w++) {
            q.is("fits(3, " + w + ")", x.fits(3, w), w < 4 ? ways[w] : 0);
        }
        LentPictures all = Due.told(SIX);
        for (int i = 0; i < 20; i++) {
            all.list(i % 6, 0, 7);
        }
        q.is("20 wrong", all.fits(20, 20), 720);
        q.is("19 wrong", all.fits(20, 19), 0);
        q.is("19 of 19 wrong", all.fits(19, 19), 720);
        q.is("21 wrong", all.fits(20, 21), -1);
        q.is("-1 wrong", all.fits(20, -1), -1);
        LentPictures twice = Due.told(THREE);
        twice.list(0, 2, 1);
        twice.list(0, 2, 1);
        q.is("told twice counts twice: 0", twice.fits(2, 0), 2);
        q.is("told twice counts twice: 1", twice.fits(2, 1), 0);
        q.is("told twice counts twice: 2", twice.fits(2, 2), 4);
        LentPictures alike = Due.told("house a 1 1; work x a a 1 1; work y a a 1 1;");
        alike.list(0, 0, 1);
        q.is("WORKS alike are two ways", alike.fits(1, 0), 2);
    }

    private void least() {
        q.by(TERMS, "LEAST w for which there is one;");
        LentPictures x = Due.told(SIX);
        q.is("no LISTS", x.least(0), 0);
        for (int i = 0; i < 20; i++) {
            x.list(i % 6, 0, 7);
            q.is(i + 1 + " LISTS of no WORK", x.least(i + 1), i + 1);
        }
        LentPictures agree = Due.told(THREE);
        agree.list(0, 0, 9);
        agree.list(0, 1, 99);
        q.is("they agree", agree.least(2), 0);
        agree.list(1, 2, 1);
        q.is("one WORK in two CRATES", agree.least(3), 1);
        q.is("no WORKS", new LentPictures().least(0), 0);
    }

    private void sure() {
        q.by(TERMS, "SURE: what a CRATE has in all ways with the least w.");
        LentPictures x = Due.told(THREE);
        x.list(0, 0, 9);
        q.is("the one", x.sure(1, 0), 2);
        q.is("this or that one", x.sure(1, 1), -2);
        x.list(0, 0, 0);
        q.is("with one wrong", x.sure(2, 0), 2);
        x.list(0, 1, 10);
        x.list(0, 1, 10);
        q.is("with two of four wrong", x.sure(4, 0), 0);
        q.is("with two of three wrong: either", x.sure(3, 0), -2);
        q.is("one WORK", Due.told("house a 1 1; work x a a 1 1;").sure(0, 0), 0);
        LentPictures wrong = Due.told(SIX);
        q.is("six WORKS", wrong.sure(0, 0), -2);
        Due.tell(wrong, "house a 1 1; work x a a 1 1;");
        for (int i = 0; i < 20; i++) {
            wrong.list(0, 0, 2);
        }
        q.is("one WORK, all 20 wrong", wrong.sure(20, 0), 0);
    }

    // ---- promises 30 to 34

    private void askList() {
        q.by("Promise 30", "A LIST tells (by 0 KIND 0 .. 9, 1 VALUE 0 .. 99, 2 owner: a HOUSE): its number;");
        int[][] good = {{0, 0}, {0, 9}, {1, 0}, {1, 99}, {2, 0}, {2, 1}};
        LentPictures x = Due.told(THREE);
        for (int i = 0; i < good.length; i++) {
            q.is("list(" + i % 3 + ", " + good[i][0] + ", " + good[i][1] + ")", x.list(i % 3, good[i][0], good[i][1]), i);
        }
        q.is("no thing done", x.count(9), 0);
        q.by("Promise 30", "NONE, and nothing happens: 20 are there, no such ones.");
        for (int i : outside(3)) {
            q.changesNothing("list(" + i + ", 0, 0)", y -> y.list(i, 0, 0), -1);
            q.changesNothing("list(0, " + i + ", 0)", y -> y.list(0, i, 0), -1);
        }
        for (int i : outside(10)) {
            q.changesNothing("list(0, 0, " + i + ")", y -> y.list(0, 0, i), -1);
        }
        for (int i : new int[] {-1, -2, 100, 101, 256, Integer.MAX_VALUE, Integer.MIN_VALUE}) {
            q.changesNothing("list(0, 1, " + i + ")", y -> y.list(0, 1, i), -1);
        }
        for (int i : outside(2)) {
            q.changesNothing("list(0, 2, " + i + ")", y -> y.list(0, 2, i), -1);
        }
        q.is("fewer HOUSES", Due.told("house a 1 1; work x a a 1 1;").list(0, 2, 1), -1);
        q.changesNothing("a 21st", HeldSentences::full, y -> y.list(0, 0, 3), -1);
        q.changesNothing("a 21st, no such one", HeldSentences::full, y -> y.list(6, 0, 3), -1);
    }

    private static LentPictures full() {
        LentPictures x = Due.told(SIX);
        for (int i = 0; i < 20; i++) {
            x.list(i % 6, 0, i % 7);
        }
        return x;
    }

    private void askForget() {
        q.by("Promise 31", "All LISTS are forgotten: how many there were.");
        LentPictures x = full();
        q.is("20", x.forget(), 20);
        q.is("LISTS", x.count(10), 0);
        q.is("none", x.forget(), 0);
        q.is("fits(1, 0)", x.fits(1, 0), -1);
        q.is("fits(0, 0)", x.fits(0, 0), 720);
        q.is("from 0 on again", x.list(0, 0, 3), 0);
        q.is("one", x.forget(), 1);
        q.is("without a text", new LentPictures().forget(), 0);
        q.is("no thing done", x.count(9), 0);
    }

    private void askFits() {
        q.by("Promise 32", "FITS, as KNOWN by k;");
        LentPictures x = Due.told(THREE);
        x.list(0, 0, 9);
        x.list(0, 0, 1);
        q.is("fits(0, 0)", x.fits(0, 0), 6);
        q.is("fits(0, 1)", x.fits(0, 1), 0);
        q.is("fits(1, 0)", x.fits(1, 0), 2);
        q.is("fits(1, 1)", x.fits(1, 1), 4);
        q.is("fits(2, 0)", x.fits(2, 0), 0);
        q.is("fits(2, 1)", x.fits(2, 1), 6);
        q.is("fits(2, 20)", x.fits(2, 20), 0);
        q.by("Promise 32", "NONE: no such ones.");
        for (int i : outside(3)) {
            q.changesNothing("fits(" + i + ", 0)", y -> y.fits(i, 0), -1);
            q.is("fits(" + i + ", 21)", Quoted.busy().fits(i, 21), -1);
        }
        for (int w : outside(21)) {
            if (w > 20 || w < 0) {
                q.is("fits(0, " + w + ")", Quoted.busy().fits(0, w), -1);
            }
        }
        q.is("20 LISTS: fits(21, 0)", full().fits(21, 0), -1);
        q.is("no LISTS: fits(1, 0)", Due.told(THREE).fits(1, 0), -1);
    }

    private void askLeast() {
        q.by("Promise 33", "LEAST, as KNOWN by k;");
        LentPictures x = Due.told(THREE);
        x.list(0, 0, 9);
        x.list(0, 0, 1);
        x.list(0, 0, 2);
        int[] want = {0, 0, 1, 2};
        for (int k = 0; k < 4; k++) {
            q.is("least(" + k + ")", x.least(k), want[k]);
        }
        q.by("Promise 33", "NONE: no such k.");
        for (int i : outside(3)) {
            q.changesNothing("least(" + i + ")", y -> y.least(i), -1);
        }
        q.is("20 LISTS: least(20)", full().least(20) >= 0, true);
        q.is("20 LISTS: least(21)", full().least(21), -1);
        q.is("no LISTS: least(1)", Due.told(THREE).least(1), -1);
    }

    private void askSure() {
        q.by("Promise 34", "SURE, as KNOWN by k: the WORK;");
        LentPictures x = Due.told(THREE);
        x.list(2, 2, 1);
        x.list(0, 1, 20);
        q.is("sure(1, 2)", x.sure(1, 2), 2);
        q.is("sure(2, 0)", x.sure(2, 0), 1);
        q.is("sure(2, 1)", x.sure(2, 1), 0);
        q.by("Promise 34", "-2: this or that one;");
        q.is("sure(0, 2)", x.sure(0, 2), -2);
        q.is("sure(1, 0)", x.sure(1, 0), -2);
        q.is("sure(1, 1)", x.sure(1, 1), -2);
        q.by("Promise 34", "NONE: no such ones.");
        for (int i : outside(3)) {
            q.changesNothing("sure(" + i + ", 0)", y -> y.sure(i, 0), -1);
            q.changesNothing("sure(0, " + i + ")", y -> y.sure(0, i), -1);
        }
        q.is("no WORKS", Due.told("house a 1 1;").sure(0, 0), -1);
    }

    // ---- promises 35 to 37

    private void hold() {
        q.by("Promise 35", "All that goes on (not LISTS, nor the tape) is held in a SLOT (0 .. 2): true;");
        for (int slot = 0; slot < 3; slot++) {
            LentPictures x = Quoted.busy();
            int done = x.count(9);
            q.is("hold(" + slot + ")", x.hold(slot), true);
            q.is("no thing done", x.count(9), done);
            x.days(50);
            x.send(0, 0);
            x.send(1, 1);
            x.lift(0, true);
            x.lift(1, false);
            x.forget();
            x.back(2);
            q.is("restore(" + slot + ")", x.restore(slot), true);
            q.is("LISTS are not held", x.count(10), 0);
            q.is("the tape is not held", x.count(8), 20);
            LentPictures y = Quoted.busy();
            y.hold(slot);
            y.forget();
            y.back(2);
            y.restore(slot);
            q.alike("held in " + slot, x, y);
            LentPictures z = Quoted.busy();
            z.forget();
            z.back(2);
            x = Quoted.busy();
            x.hold(1);
            x.days(99);
            x.restore(1);
            x.forget();
            x.back(2);
            String undone = "count\\(9\\)=\\d+";
            q.same("as it was", Picture.of(x).replaceAll(undone, ""), Picture.of(z).replaceAll(undone, ""));
        }
        LentPictures over = Due.told(THREE);
        over.hold(0);
        over.days(1);
        q.is("held anew", over.hold(0), true);
        over.days(1);
        over.restore(0);
        q.is("the later one", over.count(3), 1);
        q.is("SLOTS", over.count(11), 1);
        q.is("without a text", new LentPictures().hold(0), true);
        q.by("Promise 35", "false: no such one.");
        for (int slot : outside(3)) {
            q.changesNothing("hold(" + slot + ")", x -> x.hold(slot) ? 1 : 0, 0);
        }
    }

    private void restore() {
        q.by("Promise 36", "It goes on from what a SLOT holds (that stays there; nothing can be undone then): true;");
        LentPictures x = Due.told(THREE);
        x.days(1);
        x.hold(0);
        x.days(1);
        x.hold(1);
        x.days(1);
        x.hold(2);
        for (int slot : new int[] {0, 2, 1, 1, 0, 2}) {
            q.is("restore(" + slot + ")", x.restore(slot), true);
            q.is("the day", x.count(3), slot + 1);
            q.is("nothing can be undone", x.count(9), 0);
            q.is("undo()", x.undo(), false);
            q.is("the day", x.count(3), slot + 1);
            x.days(7);
            q.is("a thing done", x.count(9), 1);
            x.send(0, 1);
        }
        q.is("SLOTS", x.count(11), 3);
        q.is("undo the last thing", x.undo(), true);
        q.is("undo the first one", x.undo(), true);
        q.is("the day", x.count(3), 3);
        q.is("nothing ahead of it", x.undo(), false);
    }

    private void restoreRefused() {
        q.by("Promise 36", "false, and nothing happens: no such one, nothing is held.");
        q.changesNothing("nothing is held: restore(0)", x -> x.restore(0) ? 1 : 0, 0);
        q.changesNothing("nothing is held: restore(2)", x -> x.restore(2) ? 1 : 0, 0);
        for (int slot : outside(3)) {
            q.changesNothing("restore(" + slot + ")", x -> x.restore(slot) ? 1 : 0, 0);
        }
        for (int slot = 0; slot < 3; slot++) {
            q.is("a new object: restore(" + slot + ")", new LentPictures().restore(slot), false);
        }
        LentPictures all = new LentPictures();
        all.hold(0);
        all.hold(1);
        all.hold(2);
        for (int slot : outside(3)) {
            q.is("all are held: restore(" + slot + ")", all.restore(slot), false);
        }
    }

    private void count() {
        q.by("Promise 37", "0 HOUSES, 1 WORKS, 2 TERMS, 3 the day, 4 TRIPS so far, 5 WORKS under way (bits), 6 WORKS at their owners'"
            + " (bits), 7 TERMS that stand (bits), 8 bytes on the tape, 9 things that can be undone, 10 LISTS, 11 SLOTS that hold"
            + " something, 12 how many TRIPS were LATE.");
        LentPictures x = Quoted.busy();
        x.hold(2);
        int lates = LawSentences.lot(3, 0) < 50 ? 1 : 0;
        int[] want = {2, 3, 2, 3, 1, 1, 6, 1, 22, 4, 2, 2, lates};
        for (int what = 0; what <= 12; what++) {
            q.is("count(" + what + ")", x.count(what), want[what]);
        }
        LentPictures home = Due.told("house a 1 9; house b 1 9; work x a b 1 1; work y b b 1 1; trip = 1; late 100;");
        q.is("at home: count(6)", home.count(6), 2);
        home.send(0, 0);
        q.is("on the way home: count(6)", home.count(6), 2);
        q.is("on the way home: count(5)", home.count(5), 1);
        home.days(6);
        q.is("come home: count(6)", home.count(6), 3);
        home.send(1, 0);
        q.is("gone from home: count(6)", home.count(6), 1);
        q.is("count(5)", home.count(5), 2);
        q.is("count(12)", home.count(12), 2);
        home.undo();
        q.is("undone: count(12)", home.count(12), 1);
        LentPictures most = Due.told("house a 1 9; house b 1 9; house c 1 9; house d 1 9; house e 1 9; work u a a 1 1; work v a a 1 1;"
            + "work w a a 1 1; work x a a 1 1; work y a a 1 1; work z a a 1 1; term u 1<2; term v 1<2; term w 1<2; term x 1<2;"
            + "term y 1<2; term z 1<2;");
        int[] full = {5, 6, 6, 0, 0, 0, 63, 63};
        for (int what = 0; what < full.length; what++) {
            q.is("all there: count(" + what + ")", most.count(what), full[what]);
        }
        for (int work = 0; work < 6; work++) {
            most.send(work, 4);
            q.is("on the way: count(5)", most.count(5), 63 >> 5 - work);
            q.is("on the way: count(6)", most.count(6), 63 & -2 << work);
        }
        most.days(3);
        q.is("come: count(5)", most.count(5), 0);
        q.is("come: count(6)", most.count(6), 0);
        q.by("Promise 37", "NONE for others.");
        for (int what : outside(13)) {
            q.changesNothing("count(" + what + ")", y -> y.count(what), -1);
            q.is("a new object: count(" + what + ")", new LentPictures().count(what), -1);
        }
    }
}
