/** Sentences of "Terms", III (what would be), and of promises 18 to 29. */
final class WouldBeSentences {
    private static final String TERMS = "Terms";
    private static final String FIVE = "house a 0 9; house b 1 9; house c 2 9; house d 3 9; house e 4 9;";
    private static final String SIX = "work u a a 1 10; work v a a 1 20; work w a a 1 30; work x a a 1 40; work y a a 1 50;"
        + "work z a a 1 60;";
    /** Works 0 and 2 are in house 0, works 1 and 3 in house 1. */
    private static final String CROSSED = "house a 0 9; house b 9 9; work x a a 1 10; work y a b 2 20; work z a a 3 30;"
        + "work u a b 4 40;";
    private static final String THREE = "house a 4 3; house b 6 2; house c 1 1; work x b a 1 10; work y b a 1 20;"
        + "work z a b 2 30; work u c a 1 0;";

    private final Quoted q;

    WouldBeSentences(Quoted q) {
        this.q = q;
    }

    void all() {
        wouldBe();
        hangings();
        nearest();
        quarrel();
        home();
        kept();
        swaps();
        back();
        couriers();
        in();
        times();
        askHangings();
        askNearest();
        askQuarrel();
        askHome();
        askSwaps();
        askBacks();
        askSoonest();
        askThen();
        askTimes();
        askOwes();
        askRichest();
        askLent();
    }

    private static int[] outside(int size) {
        return LawSentences.outside(size);
    }

    // ---- III

    private void wouldBe() {
        q.by(TERMS, "What would be (nothing happens).");
        q.changesNothing("hangings()", x -> x.hangings(), Quoted.busy().hangings());
        q.changesNothing("nearest(0)", x -> x.nearest(0), Quoted.busy().nearest(0));
        q.changesNothing("quarrel(0)", x -> x.quarrel(0), Quoted.busy().quarrel(0));
        q.changesNothing("home(false)", x -> x.home(false), Quoted.busy().home(false));
        q.changesNothing("home(true)", x -> x.home(true), Quoted.busy().home(true));
        q.changesNothing("swaps(0)", x -> x.swaps(0), Quoted.busy().swaps(0));
        q.changesNothing("backs(0)", x -> x.backs(0), Quoted.busy().backs(0));
        q.changesNothing("soonest()", x -> x.soonest(), Quoted.busy().soonest());
        q.changesNothing("bad()", x -> x.bad(), Quoted.busy().bad());
        q.changesNothing("then(0, 200)", x -> x.then(0, 200), 1);
        q.changesNothing("times(1, 1, 200, 20)", x -> x.times(1, 1, 200, 20), 20);
    }

    private void hangings() {
        q.by(TERMS, "HANGINGS: rows that tell a HOUSE for each WORK, so that each MAY HANG there, all hanging as the row tells,"
            + " today: how many;");
        q.is("no HOUSES, no WORKS: one row", new LentPictures().hangings(), 1);
        q.is("no WORKS", Due.told(FIVE).hangings(), 1);
        q.is("all rows of six in five", Due.told(FIVE + SIX).hangings(), 15625);
        q.is("no WALLS", Due.told("house a 0 0; work x a a 1 1;").hangings(), 0);
        q.is("one by one", Due.told("house a 0 1; work x a a 1 1;").hangings(), 1);
        q.is("too many for the WALLS", Due.told("house a 0 1; house b 0 4;" + SIX).hangings(), 0);
        q.is("just enough WALLS", Due.told("house a 0 1; house b 0 5;" + SIX).hangings(), 6);
        q.is("one WALL more", Due.told("house a 0 2; house b 0 5;" + SIX).hangings(), 6 + 15);
        q.is("five of five alone", Due.told(FIVE.replace(" 9;", " 1;") + SIX.substring(0, SIX.indexOf("work z"))).hangings(), 120);
        LentPictures alone = Due.told("house a 0 9; house b 0 9; work x a a 1 1; work y a a 1 1; term x many < 1;");
        q.is("as the row tells, not as they are", alone.hangings(), 2);
        LentPictures alike = Due.told("house a 0 9; house b 0 9; work x a a 1 1; work y a a 1 1; work z a a 2 1; term x same < 1;");
        q.is("the KIND of those in the row", alike.hangings(), 4);
        LentPictures today = Due.told("house a 0 9; house b 3 9; work x a a 1 1; term x day < north;");
        q.is("today", today.hangings(), 1);
        today.days(3);
        q.is("day 3", today.hangings(), 0);
        LentPictures way = Due.told("house a 0 1; house b 3 1; work x a a 1 1; work y b b 1 1;");
        way.send(0, 1);
        q.is("one on the way hangs, too", way.hangings(), 2);
    }

    private void nearest() {
        q.by(TERMS, "the NEAREST: with fewest WORKS elsewhere than they are now (under way: elsewhere); of alike ones the first by"
            + " WORK 0's HOUSE, then the next one's.");
        LentPictures stay = Due.told(FIVE + SIX);
        q.is("all stay", stay.nearest(-1), 0);
        LentPictures x = Due.told("house a 0 1; house b 0 1; house c 0 1; work x a c 1 1; work y a c 1 1; work z a c 1 1;");
        q.is("two of three go", x.nearest(-1), 2);
        q.is("WORK 0 first", x.nearest(0), 0);
        q.is("then the next one", x.nearest(1), 1);
        q.is("the last one stays", x.nearest(2), 2);
        LentPictures fewer = Due.told("house a 0 1; house b 0 9; work x a b 1 1; work y a a 1 1; work z a a 1 1;");
        q.is("fewest comes ahead of first", fewer.nearest(-1), 1);
        q.is("WORK 0 stays", fewer.nearest(0), 1);
        q.is("WORK 1 stays", fewer.nearest(1), 0);
        q.is("WORK 2 goes", fewer.nearest(2), 1);
        LentPictures way = Due.told(FIVE + SIX);
        for (int work = 5; work >= 0; work--) {
            way.send(work, 4);
            q.is(6 - work + " under way", way.nearest(-1), 6 - work);
            q.is("the first HOUSE", way.nearest(work), 0);
        }
        way.days(3);
        q.is("all there", way.nearest(-1), 0);
        q.is("all there", way.nearest(5), 4);
        LentPictures all = Due.told(FIVE + SIX + "term u 0 < which; term v 0 < which; term w 0 < which; term x 0 < which;"
            + "term y 0 < which; term z 3 < which;");
        q.is("all elsewhere", all.nearest(-1), 6);
        q.is("the first that may", all.nearest(0), 1);
        q.is("the last HOUSE", all.nearest(5), 4);
    }

    private void quarrel() {
        q.by(TERMS, "QUARREL: the fewest TERMS of those that stand for which alone (and room) there is no HANGING; of alike ones the"
            + " least bits.");
        LentPictures room = Due.told("house a 0 1; work x a a 1 1; work y a a 1 1; term x 1 < 1;");
        q.is("no room: no TERMS are needed", room.quarrel(0), 0);
        q.is("no room: which", room.quarrel(1), 0);
        LentPictures one = Due.told("house a 0 9; work x a a 1 1; term x 1 < 2; term x 1 < 2; term x 1 < 2; term x 1 < 2;"
            + "term x 1 < 2; term x 1 < 1;");
        q.is("the last TERM alone", one.quarrel(0) * 100 + one.quarrel(1), 132);
        LentPictures alike = Due.told("house a 0 9; work x a a 1 1; term x 1 < 2; term x 1 < 1; term x 1 < 2; term x 1 < 1;");
        q.is("the least bits", alike.quarrel(1), 2);
        alike.lift(1, true);
        q.is("of those that stand", alike.quarrel(1), 8);
        LentPictures two = Due.told("house a 0 9; house b 9 9; work x a a 1 1; term x north < 5; term x 1 < 2; term x 4 < north;"
            + "term x which < 1;");
        q.is("two", two.quarrel(0), 2);
        q.is("the least bits of two", two.quarrel(1), 5);
        two.lift(0, true);
        q.is("the next ones", two.quarrel(1), 12);
        StringBuilder alone = new StringBuilder(FIVE + SIX);
        for (char c = 'z'; c >= 'u'; c--) {
            alone.append("term ").append(c).append(" many < 1;");
        }
        LentPictures five = Due.told(alone.toString());
        q.is("five of six alone in five HOUSES", five.quarrel(0) * 100 + five.quarrel(1), 531);
        LentPictures six = Due.told(FIVE + "work x a a 1 1; work y a a 1 1; term x 0 < which; term x 0 < (which - 1) * (which - 1);"
            + "term y 3 < which; term x 0 < (which - 2) * (which - 2); term y many < 1; term x 0 < (which - 3) * (which - 3);");
        q.is("all six", six.quarrel(0) * 100 + six.quarrel(1), 663);
        LentPictures few = Due.told("house a 0 9; house b 9 9; work x a a 1 1; work y a a 1 1; term x north < 5; term x 4 < north;"
            + "term y 1 < 1;");
        q.is("fewest comes ahead of least bits", few.quarrel(0) * 100 + few.quarrel(1), 104);
    }

    private void home() {
        q.by(TERMS, "HOME: the fewest TRIPS, one after the other, each of one WORK at once to another HOUSE, from a row of HOUSES in"
            + " which WORKS are (under way: where it goes), to that in which all are at their owners', so that behind each there"
            + " is room for all");
        q.is("no WORKS", new LentPictures().home(false), 0);
        q.is("all at home", Due.told(FIVE + SIX).home(false), 0);
        q.is("all elsewhere", Due.told(FIVE + SIX.replace("a a", "a e")).home(false), 6);
        q.is("one elsewhere", Due.told("house a 0 1; house b 0 1; work x a b 1 1;").home(false), 1);
        LentPictures way = Due.told("house a 0 1; house b 0 1; work x a b 1 1;");
        way.send(0, 0);
        q.is("under way home", way.home(false), 0);
        LentPictures off = Due.told("house a 0 1; house b 0 1; work x a a 1 1;");
        off.send(0, 1);
        q.is("under way from home", off.home(false), 1);
        q.is("no room to turn", Due.told("house a 0 1; house b 0 1; work x a b 1 1; work y b a 1 1;").home(false), -2);
        q.is("room to turn", Due.told("house a 0 2; house b 0 1; work x a b 1 1; work y b a 1 1;").home(false), 2);
        q.is("by a third one", Due.told("house a 0 1; house b 0 1; house c 0 1; work x a b 1 1; work y b a 1 1;").home(false), 3);
        q.is("a third one without WALLS", Due.told("house a 0 1; house b 0 1; house c 0 0; work x a b 1 1; work y b a 1 1;")
            .home(false), -2);
        q.is("no room at home", Due.told("house a 0 0; house b 0 9; work x a b 1 1;").home(false), -2);
        q.is("room for one of two at home", Due.told("house a 0 1; house b 0 9; work x a b 1 1; work y a b 1 1;").home(false), -2);
        q.is("too many where they are, behind the first, too", Due.told("house a 0 9; house b 0 1; work x a b 1 1; work y a b 1 1;"
            + "work z a b 1 1;").home(false), -2);
        q.is("TERMS are no matter", Due.told("house a 0 1; house b 0 1; work x a b 1 1; term x 1 < 1;").home(false), 1);
        q.is("two turns by one HOUSE", Due.told("house a 0 1; house b 0 1; house c 0 1; house d 0 1; house e 0 1; work x a b 1 1;"
            + "work y b a 1 1; work z c d 1 1; work u d c 1 1;").home(false), 6);
        oneTripEach();
        turnByEitherOfTwo();
    }

    private static String row(int[] owners, int[] starts) {
        StringBuilder text = new StringBuilder();
        for (int w = 0; w < owners.length; w++) {
            text.append("work ").append((char) ('u' + w)).append(' ').append((char) ('a' + owners[w])).append(' ')
                .append((char) ('a' + starts[w])).append(" 1 1;");
        }
        return text.toString();
    }

    /** Each work, from each house to each other one, while the others are at home. */
    private void oneTripEach() {
        for (int work = 0; work < 6; work++) {
            for (int from = 0; from < 5; from++) {
                for (int to = 0; to < 5; to++) {
                    int[] owners = {0, 1, 2, 3, 4, 0};
                    int[] starts = {0, 1, 2, 3, 4, 0};
                    owners[work] = to;
                    starts[work] = from;
                    LentPictures x = Due.told(FIVE + row(owners, starts));
                    q.is("WORK " + work + " from " + from + " to " + to, x.home(false), from == to ? 0 : 1);
                    owners = new int[6];
                    starts = new int[6];
                    owners[work] = to;
                    starts[work] = from;
                    x = Due.told(FIVE + row(owners, starts));
                    q.is("WORK " + work + " alone from " + from + " to " + to, x.home(true), from == to ? 0 : 1);
                }
            }
        }
    }

    /** Two works change places by way of one or the other of two more houses; the rest has no room. */
    private void turnByEitherOfTwo() {
        for (int one = 0; one < 4; one++) {
            for (int other = one + 1; other < 4; other++) {
                int[] owners = {4, 4, 4, 4};
                int[] starts = {4, 4, 4, 4};
                owners[one] = starts[other] = 0;
                owners[other] = starts[one] = 1;
                LentPictures x = Due.told("house a 0 1; house b 0 1; house c 0 1; house d 0 1; house e 0 2;" + row(owners, starts));
                q.is("WORKS " + one + " and " + other + " change places", x.home(false), 3);
            }
        }
    }

    private void kept() {
        q.by(TERMS, "(kept: and all TERMS that stand hold for all; what is ahead of the first is not looked at).");
        q.is("no room ahead", Due.told("house a 0 1; house b 0 0; work x a b 1 1;").home(false), 1);
        q.is("no room ahead, kept", Due.told("house a 0 1; house b 0 0; work x a b 1 1;").home(true), 1);
        q.is("too many ahead by one", Due.told("house a 0 9; house b 0 1; work x a b 1 1; work y a b 1 1;").home(true), 2);
        LentPictures broken = Due.told("house a 0 9; house b 1 9; work x a b 1 1; term x north < 1;");
        q.is("a TERM broken ahead", broken.home(true), 1);
        q.is("at home, no room, TERMS broken", Due.told("house a 0 0; work x a a 1 1; term x 1 < 1;").home(true), 0);
        LentPictures never = Due.told("house a 0 9; house b 1 9; work x a b 1 1; term x 0 < north;");
        q.is("a TERM broken at home", never.home(true), -2);
        q.is("no matter if not kept", never.home(false), 1);
        never.lift(0, true);
        q.is("lifted", never.home(true), 1);
        LentPictures apart = Due.told("house a 0 9; house b 1 9; house c 2 9; work x b a 1 1; work y a b 2 1; term x many < 1;");
        q.is("never together", apart.home(true), 3);
        q.is("together", apart.home(false), 2);
        LentPictures other = Due.told("house a 0 9; house b 1 9; work x a b 1 1; work y b b 1 1; term y many < 1;");
        q.is("the TERM of one that stays", other.home(true), 1);
        LentPictures stuck = Due.told("house a 0 9; house b 1 9; work x a b 1 1; work y b b 1 1; work z a b 1 1; term y many < 1;");
        q.is("the TERM of one that stays, broken behind the first", stuck.home(true), -2);
        LentPictures day = Due.told("house a 0 9; house b 1 9; work x a b 1 1; term x day < 1;");
        q.is("today", day.home(true), 1);
        day.days(1);
        q.is("tomorrow", day.home(true), -2);
    }

    private void swaps() {
        q.by(TERMS, "SWAPS: two WORKS in two HOUSES, each of which LIKES (as if the one WORK were there in place of the other one)"
            + " the other HOUSE's more than its own: how many; the best: by both gains together; of alike ones the first by the"
            + " lesser WORK, then the other one.");
        q.is("no WORKS", Due.told(FIVE).swaps(-1), 0);
        q.is("in one HOUSE", Due.told(FIVE + SIX).swaps(-1), 0);
        q.is("alike is not more", Due.told(CROSSED + "likes = 50;").swaps(-1), 0);
        q.is("more for one, alike for the other", Due.told(CROSSED + "likes = if which < 1 then kind else 50;").swaps(-1), 0);
        q.is("more for the other, alike for one", Due.told(CROSSED + "likes = if which < 1 then 50 else 9 - kind;").swaps(-1), 0);
        q.is("more by 1 for both", Due.told("house a 0 9; house b 9 9; work x a a 1 1; work y a b 2 1;"
            + "likes = if which < 1 then kind else 9 - kind;").swaps(2), 2);
        q.is("held to 99", Due.told(CROSSED + "likes = if which < 1 then 98 + kind else 9 - kind;").swaps(-1), 0);
        q.is("held to 0", Due.told(CROSSED + "likes = if which < 1 then kind else 0 - kind;").swaps(-1), 0);
        LentPictures best = Due.told(CROSSED + "likes = if which < 1 then kind * 10 else 90 - kind * 10;");
        q.is("how many", best.swaps(-1), 3);
        q.is("the best", best.swaps(0) * 100 + best.swaps(1), 3);
        q.is("both gains", best.swaps(2), 60);
        LentPictures later = Due.told("house a 0 9; house b 9 9; work x a a 3 10; work y a b 4 20; work z a a 1 30; work u a b 5 40;"
            + "likes = if which < 1 then kind * 10 else 90 - kind * 10;");
        q.is("a later one is better", later.swaps(0) * 100 + later.swaps(1), 203);
        LentPictures alike = Due.told("house a 0 9; house b 9 9; work x a a 9 1; work y a b 2 1; work z a a 1 1; work u a b 2 1;"
            + "likes = if which < 1 then kind * 10 else 90 - kind * 10;");
        q.is("of alike ones the lesser, then the other one", alike.swaps(0) * 100 + alike.swaps(1), 102);
        LentPictures second = Due.told("house a 0 9; house b 9 9; work x a a 1 1; work y a b 2 1; work z a b 2 1;"
            + "likes = if which < 1 then kind * 10 else 90 - kind * 10;");
        q.is("of alike ones the first of the others", second.swaps(1), 1);
        LentPictures place = Due.told("house a 0 9; house b 9 9; work x a a 1 1; work y a a 2 1; work z a b 2 1; work u a b 1 1;"
            + "likes = same * 10 + many;");
        q.is("in place of the other one", place.swaps(-1), 2);
        LentPictures way = Due.told("house a 0 9; house b 9 9; work x a a 1 1; work y a b 2 1;"
            + "likes = if which < 1 then kind else 9 - kind;");
        q.is("both there", way.swaps(-1), 1);
        way.send(1, 0);
        q.is("one on the way is in no HOUSE", way.swaps(-1), 0);
        for (int first = 0; first < 2; first++) {
            LentPictures third = Due.told("house a 0 9; house b 9 9; house c 9 9; work x a " + "ca".charAt(first) + " 1 1; work y a "
                + "bc".charAt(first) + " 2 1; likes = if which < 1 then kind else if which < 2 then 9 - kind else 5;");
            q.is("one in a third HOUSE", third.swaps(-1), 0);
            third.send(first, first);
            q.is("on the way from there", third.swaps(-1), 0);
            third.days(3);
            q.is("come", third.swaps(-1), 1);
        }
    }

    private void back() {
        q.by(TERMS, "BACK: sets of HOUSES each of which sends all that is not its own to the owners at once: RESTS: for no HOUSE, by"
            + " itself doing the other thing, what it LIKES of all it has then, together, were more (as if alone there, today;"
            + " under way: at the HOUSE where it goes).");
        q.is("no HOUSES: the empty set", new LentPictures().backs(-1), 1);
        q.is("nothing to send: all sets", Due.told(FIVE + SIX).backs(-1), 32);
        q.is("all are liked: none sends", Due.told(FIVE + SIX.replace("a a", "a e")).backs(-1), 16);
        q.is("liked by 1", Due.told("house a 0 9; house b 0 9; work x a b 1 1;").backs(-1), 2);
        q.is("liked by 0: alike is not more", Due.told("house a 0 9; house b 0 9; work x a b 1 0;").backs(-1), 4);
        q.is("below 0 is held to 0", Due.told("house a 0 9; house b 0 9; work x a b 1 1; likes = 0 - 5;").backs(-1), 4);
        q.is("what comes home is no matter", Due.told("house a 0 9; house b 0 9; work x a b 1 0; work y b b 1 50;").backs(-1), 4);
        q.is("as if alone", Due.told("house a 0 9; house b 0 9; work x a b 1 0; work y b b 1 0; likes = many + same;").backs(-1), 4);
        q.is("as if alone: many is 0", Due.told("house a 0 9; house b 0 9; work x a b 1 0; likes = many + 1;").backs(-1), 2);
        q.is("as if alone: same is 0", Due.told("house a 0 9; house b 0 9; work x a b 1 0; likes = same + 1;").backs(-1), 2);
        LentPictures today = Due.told("house a 0 9; house b 0 9; work x a b 1 0; likes = day;");
        q.is("today", today.backs(-1), 4);
        today.days(1);
        q.is("tomorrow", today.backs(-1), 2);
        LentPictures way = Due.told("house a 0 9; house b 0 9; house c 0 9; work x a b 1 9;");
        q.is("in b", way.backs(2), 4);
        way.send(0, 2);
        q.is("on the way to c", way.backs(2), 2);
        way.days(3);
        way.send(0, 0);
        q.is("on the way home", way.backs(-1), 8);
    }

    private void couriers() {
        q.by(TERMS, "COURIERS: all that is not at its owner's is taken there (from under way: from where it goes), by COURIERS, each"
            + " one WORK after the other, TRIP days each as of today, not LATE, no way back: the fewest days till all are there.");
        String works = "house a 0 9; house b 5 9; work u a b 1 7; work v a b 2 6; work w a b 3 5; work x a b 3 4; work y a b 3 4;"
            + "work z b b 3 90; trip = value + day; late 100;";
        q.is("nothing to take", Due.told(FIVE + SIX).soonest(), 0);
        q.is("no WORKS", new LentPictures().soonest(), 0);
        q.is("one courier: one after the other", Due.told(works).soonest(), 26);
        q.is("two couriers", Due.told(works + "couriers 2;").soonest(), 13);
        q.is("three couriers", Due.told(works + "couriers 3;").soonest(), 10);
        q.is("more couriers than WORKS", Due.told("house a 0 9; house b 5 9; work u a b 1 7; couriers 3;").soonest(), 3);
        q.is("six of 99", Due.told(FIVE + SIX.replace("a a", "a e") + "trip = 9999;").soonest(), 594);
        q.is("six of 1", Due.told(FIVE + SIX.replace("a a", "a e") + "trip = 0;").soonest(), 6);
        LentPictures x = Due.told(works);
        x.send(0, 0);
        q.is("one under way home", x.soonest(), 19);
        x.send(5, 0);
        q.is("one under way elsewhere", x.soonest(), 19 + 90);
        x.days(2);
        q.is("as of today", x.soonest(), 8 + 7 + 6 + 6 + 92);
        q.is("no room is no matter", Due.told("house a 0 0; house b 0 0; work u a b 1 7;").soonest(), 3);
        q.is("the best share is not the greedy one", Due.told("house a 0 9; house b 5 9; work u a b 1 3; work v a b 2 3;"
            + "work w a b 3 2; work x a b 3 2; work y a b 3 2; trip = value; couriers 2;").soonest(), 6);
    }

    private void in() {
        q.by(TERMS, "IN n days (0 .. 200): where a WORK is.");
        LentPictures x = Due.told(THREE + "trip = 99; late 100;");
        x.days(5);
        x.send(0, 2);
        q.is("in 0 days", x.then(0, 0), -2);
        q.is("in 103 days", x.then(0, 103), -2);
        q.is("in 104 days", x.then(0, 104), 2);
        q.is("in 200 days", x.then(0, 200), 2);
        q.is("in 201 days", x.then(0, 201), -1);
        q.is("in -1 days", x.then(0, -1), -1);
        q.is("it stays where it is", x.then(1, 200), 0);
        x.days(99);
        q.is("a day ahead: in 4 days", x.then(0, 4), -2);
        q.is("the day: in 5 days", x.then(0, 5), 2);
    }

    private void times() {
        q.by(TERMS, "TIMES of s SEEDS (1 .. 20) from the text's SEED on: in how many a WORK, SENT to a HOUSE now, is there in n days"
            + " (0 .. 200).");
        for (int seed : new int[] {0, 7, 9980, 9990, 9999}) {
            LentPictures x = Due.told(THREE + "trip = 4; late 30; seed " + seed + ";");
            int inTime = 0;
            for (int s = 1; s <= 20; s++) {
                inTime += LawSentences.lot(seed + s - 1, 0) < 30 ? 0 : 1;
                q.is("SEED " + seed + ", " + s + " SEEDS, 3 days", x.times(0, 1, 3, s), 0);
                q.is("SEED " + seed + ", " + s + " SEEDS, 4 days", x.times(0, 1, 4, s), inTime);
                q.is("SEED " + seed + ", " + s + " SEEDS, 8 days", x.times(0, 1, 8, s), inTime);
                q.is("SEED " + seed + ", " + s + " SEEDS, 9 days", x.times(0, 1, 9, s), s);
            }
            q.is("21 SEEDS", x.times(0, 1, 9, 21), -1);
            q.is("0 SEEDS", x.times(0, 1, 9, 0), -1);
            q.is("0 days", x.times(0, 1, 0, 20), 0);
            q.is("200 days", x.times(0, 1, 200, 20), 20);
            q.is("201 days", x.times(0, 1, 201, 20), -1);
            q.is("-1 days", x.times(0, 1, -1, 20), -1);
        }
        LentPictures later = Due.told(THREE + "trip = 4 + day; late 30; seed 5;");
        later.send(1, 1);
        later.send(3, 2);
        later.days(10);
        int inTime = 0;
        for (int s = 0; s < 20; s++) {
            inTime += LawSentences.lot(5 + s, 16) < 30 ? 0 : 1;
        }
        q.is("now, with two TRIPS so far: 13 days", later.times(0, 1, 13, 20), 0);
        q.is("now, with two TRIPS so far: 14 days", later.times(0, 1, 14, 20), inTime);
    }

    // ---- promises 18 to 24

    private void askHangings() {
        q.by("Promise 18", "HANGINGS: how many.");
        q.is("none", Due.told("house a 0 0; work x a a 1 1;").hangings(), 0);
        q.is("one", Due.told("house a 0 1; work x a a 1 1;").hangings(), 1);
        q.is("most", Due.told(FIVE + SIX).hangings(), 15625);
        LentPictures x = Due.told("house a 0 9; house b 1 9; work x a a 1 1; work y a a 1 1; term x day < which;");
        q.is("day 0", x.hangings(), 2);
        x.days(1);
        q.is("day 1", x.hangings(), 0);
        x.lift(0, true);
        q.is("lifted", x.hangings(), 4);
        x.hold(0);
        x.undo();
        q.is("undone", x.hangings(), 0);
        x.undo();
        q.is("undone again", x.hangings(), 2);
        x.restore(0);
        q.is("restored", x.hangings(), 4);
        Due.tell(x, FIVE);
        q.is("another text", x.hangings(), 1);
    }

    private void askNearest() {
        q.by("Promise 19", "NEAREST: how many WORKS elsewhere (work NONE), else its HOUSE;");
        LentPictures x = Due.told("house a 0 1; house b 1 1; house c 2 9; work x a a 1 1; work y a a 1 1; work z b a 1 1;");
        q.is("nearest(-1)", x.nearest(-1), 2);
        q.is("nearest(0)", x.nearest(0), 0);
        q.is("nearest(1)", x.nearest(1), 1);
        q.is("nearest(2)", x.nearest(2), 2);
        q.is("no WORKS: nearest(-1)", Due.told(FIVE).nearest(-1), 0);
        q.by("Promise 19", "-2: there is none;");
        LentPictures none = Due.told("house a 0 1; work x a a 1 1; work y a a 1 1;");
        for (int i = -1; i < 2; i++) {
            q.is("nearest(" + i + ")", none.nearest(i), -2);
        }
        q.by("Promise 19", "NONE (looked at first): no such WORK.");
        for (int i : outside(3)) {
            if (i != -1) {
                q.is("nearest(" + i + ")", x.nearest(i), -1);
                q.is("there is none: nearest(" + i + ")", none.nearest(i), -1);
                q.changesNothing("nearest(" + i + ")", y -> y.nearest(i), -1);
            }
        }
        q.is("there is none: nearest(2)", none.nearest(2), -1);
        q.is("no WORKS: nearest(0)", Due.told(FIVE).nearest(0), -1);
    }

    private void askQuarrel() {
        q.by("Promise 20", "QUARREL: what 0 how many, 1 which (bits);");
        LentPictures x = Due.told("house a 0 9; house b 9 9; work x a a 1 1; term x 1 < 2; term x 4 < north; term x north < 5;");
        q.is("quarrel(0)", x.quarrel(0), 2);
        q.is("quarrel(1)", x.quarrel(1), 6);
        LentPictures room = Due.told("house a 0 0; work x a a 1 1; term x 1 < 1;");
        q.is("no room: quarrel(0)", room.quarrel(0), 0);
        q.is("no room: quarrel(1)", room.quarrel(1), 0);
        q.by("Promise 20", "-2: there is a HANGING with all that stand;");
        LentPictures none = Due.told("house a 0 9; work x a a 1 1; term x 1 < 2;");
        q.is("quarrel(0)", none.quarrel(0), -2);
        q.is("quarrel(1)", none.quarrel(1), -2);
        q.is("no WORKS", new LentPictures().quarrel(0), -2);
        x.lift(1, true);
        q.is("lifted", x.quarrel(1), -2);
        x.lift(1, false);
        q.is("stands again", x.quarrel(1), 6);
        q.by("Promise 20", "NONE for others.");
        for (int what : outside(2)) {
            q.is("quarrel(" + what + ")", x.quarrel(what), -1);
            q.is("there is none: quarrel(" + what + ")", none.quarrel(what), -1);
            q.changesNothing("quarrel(" + what + ")", y -> y.quarrel(what), -1);
        }
    }

    private void askHome() {
        q.by("Promise 21", "HOME;");
        LentPictures x = Due.told("house a 0 2; house b 5 2; work x a b 1 1; work y b a 1 1; term x day < 1 + many;");
        q.is("home(false)", x.home(false), 2);
        q.is("home(true)", x.home(true), 2);
        x.days(1);
        q.by("Promise 21", "-2: there is no way.");
        q.is("day 1: home(true)", x.home(true), -2);
        q.is("day 1: home(false)", x.home(false), 2);
        x.undo();
        q.is("undone: home(true)", x.home(true), 2);
        LentPictures full = Due.told("house a 0 1; house b 5 1; work x a b 1 1; work y b a 1 1;");
        q.is("no room: home(false)", full.home(false), -2);
        q.is("no room: home(true)", full.home(true), -2);
        q.is("no WALLS at home", Due.told("house a 0 0; house b 5 1; work x a b 1 1;").home(false), -2);
        askHomeAnew();
    }

    /** What was found for one text, or one state, does not stay for the next. */
    private void askHomeAnew() {
        String[] texts = {FIVE + SIX.replace("a a", "a e"), "house a 0 1; house b 5 1; work x a b 1 1; work y b a 1 1;",
            "house a 0 1; house b 5 1; house c 0 1; work x a b 1 1; work y b a 1 1;", FIVE + SIX,
            "house a 0 1; house b 5 1; house c 0 0; work x a b 1 1; work y b a 1 1;",
            "house a 0 9; house b 5 9; house c 0 9; work x a b 1 1; work y b a 1 1; work z a b 1 1; term x many < 1;",
            "house a 0 2; house b 5 2; work x a b 1 1; work y b a 1 1; work z a b 1 1; term x many < 1;"};
        LentPictures x = new LentPictures();
        for (int i = 0; i < 3 * texts.length; i++) {
            String text = texts[i * 3 % texts.length];
            Due.tell(x, text);
            q.is("home(true) of <" + text + "> behind others", x.home(true), Due.told(text).home(true));
            q.is("home(false) of <" + text + "> behind others", x.home(false), Due.told(text).home(false));
        }
        LentPictures moved = Due.told(FIVE + SIX);
        for (int work = 0; work < 6; work++) {
            moved.send(work, 4);
            q.is("so many gone: home(false)", moved.home(false), work + 1);
            q.is("so many gone: home(true)", moved.home(true), work + 1);
        }
        for (int work = 5; work >= 0; work--) {
            moved.undo();
            q.is("so many gone: home(false)", moved.home(false), work);
        }
    }

    private void askSwaps() {
        q.by("Promise 22", "SWAPS: how many (what NONE), else of the best what 0, 1 the WORKS, 2 both gains;");
        LentPictures x = Due.told(CROSSED + "likes = if which < 1 then kind * 10 else 90 - kind * 10;");
        int[] want = {3, 0, 3, 60};
        for (int what = -1; what <= 2; what++) {
            q.is("swaps(" + what + ")", x.swaps(what), want[what + 1]);
        }
        LentPictures most = Due.told("house a 0 9; house b 0 9; house c 0 9; house d 0 9; house e 0 9; work p a a 0 1; work q a b 1 1;"
            + "work r a c 2 1; work s a d 3 1; work t a e 4 1; likes = if (which - kind) * (which - kind) < 1 then 0 else 99;");
        q.is("every two: how many", most.swaps(-1), 10);
        q.is("every two: both gains", most.swaps(2), 198);
        q.is("every two: the first", most.swaps(0) * 100 + most.swaps(1), 1);
        q.by("Promise 22", "-2: there is none;");
        LentPictures none = Due.told(CROSSED + "likes = 5;");
        q.is("swaps(-1)", none.swaps(-1), 0);
        for (int what = 0; what <= 2; what++) {
            q.is("swaps(" + what + ")", none.swaps(what), -2);
            q.is("no WORKS: swaps(" + what + ")", new LentPictures().swaps(what), -2);
        }
        q.by("Promise 22", "NONE for others.");
        for (int what : outside(3)) {
            if (what != -1) {
                q.is("swaps(" + what + ")", x.swaps(what), -1);
                q.is("there is none: swaps(" + what + ")", none.swaps(what), -1);
                q.changesNothing("swaps(" + what + ")", y -> y.swaps(what), -1);
            }
        }
    }

    private void askBacks() {
        q.by("Promise 23", "BACK: RESTS: how many (i NONE), else the i-th (bits, the least first);");
        LentPictures x = Due.told("house a 0 9; house b 5 9; house c 9 9; house d 9 9; work x b a 1 0; work y a b 2 20;"
            + "work z c c 3 30; work u a d 4 0;");
        q.is("backs(-1)", x.backs(-1), 8);
        int[] want = {0, 1, 4, 5, 8, 9, 12, 13};
        for (int i = 0; i < want.length; i++) {
            q.is("backs(" + i + ")", x.backs(i), want[i]);
        }
        LentPictures all = Due.told(FIVE);
        for (int i = 0; i < 32; i++) {
            q.is("all sets: backs(" + i + ")", all.backs(i), i);
        }
        q.is("no HOUSES: backs(0)", new LentPictures().backs(0), 0);
        q.by("Promise 23", "NONE: not so many, i below NONE.");
        for (int i : outside(8)) {
            if (i != -1) {
                q.is("backs(" + i + ")", x.backs(i), -1);
            }
        }
        for (int i : new int[] {8, 9, -2, -3, 32, Integer.MIN_VALUE, Integer.MAX_VALUE}) {
            q.changesNothing("backs(" + i + ")", y -> y.backs(i), -1);
        }
        q.is("all sets: backs(32)", all.backs(32), -1);
        q.is("all sets: backs(-2)", all.backs(-2), -1);
        q.is("no HOUSES: backs(1)", new LentPictures().backs(1), -1);
    }

    private void askSoonest() {
        q.by("Promise 24", "COURIERS: the days.");
        LentPictures x = Due.told("house a 0 9; house b 5 9; work u a b 1 7; work v a b 2 6; trip = value; couriers 2;");
        q.is("soonest()", x.soonest(), 7);
        x.send(0, 0);
        q.is("one under way home", x.soonest(), 6);
        x.send(1, 0);
        q.is("both under way home", x.soonest(), 0);
        x.undo();
        q.is("undone", x.soonest(), 6);
        q.is("all home", Due.told(FIVE + SIX).soonest(), 0);
        q.is("nothing", new LentPictures().soonest(), 0);
    }

    // ---- promises 25 to 29

    private void askThen() {
        q.by("Promise 25", "IN n days: the HOUSE (-2: under way);");
        LentPictures x = Due.told(THREE + "trip = 7;");
        q.is("then(0, 0)", x.then(0, 0), 0);
        q.is("then(2, 200)", x.then(2, 200), 1);
        x.days(3);
        x.send(0, 2);
        q.is("then(0, 0)", x.then(0, 0), -2);
        q.is("then(0, 6)", x.then(0, 6), -2);
        q.is("then(0, 7)", x.then(0, 7), 2);
        q.is("then(0, 200)", x.then(0, 200), 2);
        q.by("Promise 25", "NONE: no such ones.");
        for (int i : outside(3)) {
            q.changesNothing("then(" + i + ", 0)", y -> y.then(i, 0), -1);
        }
        for (int n : new int[] {-1, -2, -200, 201, 202, 256, 512, Integer.MAX_VALUE, Integer.MIN_VALUE}) {
            q.is("then(0, " + n + ")", x.then(0, n), -1);
            q.is("then(1, " + n + ")", x.then(1, n), -1);
            q.is("then(4, " + n + ")", x.then(4, n), -1);
        }
    }

    private void askTimes() {
        q.by("Promise 26", "TIMES;");
        LentPictures x = Due.told(THREE + "trip = 4;");
        q.is("times(0, 1, 3, 20)", x.times(0, 1, 3, 20), 0);
        q.is("times(0, 1, 4, 1)", x.times(0, 1, 4, 1), 1);
        q.is("times(0, 1, 4, 20)", x.times(0, 1, 4, 20), 20);
        q.is("nothing is SENT", x.count(4), 0);
        q.by("Promise 26", "-2: it is there, it is under way;");
        q.is("it is there", x.times(0, 0, 4, 20), -2);
        x.send(1, 2);
        for (int house = 0; house < 3; house++) {
            q.is("under way: times(1, " + house + ", 4, 20)", x.times(1, house, 4, 20), -2);
        }
        x.days(4);
        q.is("it has come: there", x.times(1, 2, 4, 20), -2);
        q.is("it has come: elsewhere", x.times(1, 1, 4, 20), 20);
        q.by("Promise 26", "NONE (looked at first): no such ones.");
        for (int i : outside(3)) {
            q.changesNothing("times(" + i + ", 0, 1, 1)", y -> y.times(i, 0, 1, 1), -1);
        }
        for (int i : outside(2)) {
            q.is("times(1, " + i + ", 1, 1)", Quoted.busy().times(1, i, 1, 1), -1);
            q.is("under way: times(0, " + i + ", 1, 1)", Quoted.busy().times(0, i, 1, 1), -1);
        }
        for (int n : new int[] {-1, -2, 201, 202, 256, Integer.MAX_VALUE, Integer.MIN_VALUE}) {
            q.is("times(1, 1, " + n + ", 1)", Quoted.busy().times(1, 1, n, 1), -1);
            q.is("it is there: times(1, 0, " + n + ", 1)", Quoted.busy().times(1, 0, n, 1), -1);
            q.is("under way: times(0, 1, " + n + ", 1)", Quoted.busy().times(0, 1, n, 1), -1);
        }
        for (int s : new int[] {0, -1, -20, 21, 22, 256, Integer.MAX_VALUE, Integer.MIN_VALUE}) {
            q.is("times(1, 1, 1, " + s + ")", Quoted.busy().times(1, 1, 1, s), -1);
            q.is("it is there: times(1, 0, 1, " + s + ")", Quoted.busy().times(1, 0, 1, s), -1);
            q.is("under way: times(0, 1, 1, " + s + ")", Quoted.busy().times(0, 1, 1, s), -1);
        }
    }

    private void askOwes() {
        q.by("Promise 27", "WORKS of another HOUSE that are in a HOUSE, or under way to it (bits);");
        LentPictures x = Due.told(THREE);
        int[][] want = {{-1, 3, 8}, {4, -1, 0}, {0, 0, -1}};
        for (int h = 0; h < 3; h++) {
            for (int o = 0; o < 3; o++) {
                if (h != o) {
                    q.is("owes(" + h + ", " + o + ")", x.owes(h, o), want[h][o]);
                }
            }
        }
        x.send(0, 2);
        q.is("under way from it", x.owes(0, 1), 2);
        q.is("under way to it", x.owes(2, 1), 1);
        x.days(3);
        q.is("there", x.owes(2, 1), 1);
        x.send(0, 1);
        q.is("under way home", x.owes(2, 1) + x.owes(1, 0) + x.owes(0, 1), 4 + 2);
        q.is("six", Due.told(FIVE + SIX.replace("a a", "a e")).owes(4, 0), 63);
        q.by("Promise 27", "NONE: no such ones, one and the same.");
        for (int h = 0; h < 3; h++) {
            q.is("owes(" + h + ", " + h + ")", x.owes(h, h), -1);
        }
        for (int i : outside(2)) {
            q.changesNothing("owes(" + i + ", 0)", y -> y.owes(i, 0), -1);
            q.is("owes(0, " + i + ")", Quoted.busy().owes(0, i), -1);
            q.is("owes(" + i + ", " + i + ")", Quoted.busy().owes(i, i), -1);
        }
    }

    private void askRichest() {
        q.by("Promise 28", "The HOUSE whose WORKS there have most VALUE together, of alike ones the first (all: that VALUE);");
        LentPictures x = Due.told(THREE);
        q.is("alike: the first", x.richest(false), 0);
        q.is("alike: VALUE", x.richest(true), 30);
        x.send(0, 2);
        q.is("under way: nowhere", x.richest(false), 1);
        x.send(2, 2);
        q.is("two under way", x.richest(false) * 100 + x.richest(true), 20);
        x.days(3);
        q.is("there", x.richest(false) * 100 + x.richest(true), 240);
        q.is("no WORKS: the first", Due.told(FIVE).richest(false), 0);
        q.is("no WORKS: VALUE", Due.told(FIVE).richest(true), 0);
        q.is("the last HOUSE", Due.told(FIVE + SIX.replace("a a", "a e")).richest(false), 4);
        q.is("VALUE of no worth: the first", Due.told("house a 0 9; house b 0 9; work x b b 1 0;").richest(false), 0);
        q.is("most of all", Due.told("house a 0 9; house b 0 9;" + SIX.replaceAll("\\d\\d;", "99;").replace("a a", "a b"))
            .richest(true), 594);
        q.by("Promise 28", "-2: there are no HOUSES.");
        q.is("richest(false)", new LentPictures().richest(false), -2);
        q.is("richest(true)", new LentPictures().richest(true), -2);
        q.is("an empty text", Due.told("late 1;").richest(false), -2);
    }

    private void askLent() {
        q.by("Promise 29", "What a HOUSE has LENT another one;");
        LentPictures x = Due.told(THREE + "trip = 1;");
        x.send(0, 1);
        x.send(1, 2);
        x.days(1);
        x.send(0, 0);
        int[][] want = {{-1, 1, 1}, {1, -1, 0}, {0, 0, -1}};
        for (int h = 0; h < 3; h++) {
            for (int o = 0; o < 3; o++) {
                if (h != o) {
                    q.is("lent(" + h + ", " + o + ")", x.lent(h, o), want[h][o]);
                }
            }
        }
        x.undo();
        q.is("undone", x.lent(1, 0), 0);
        LentPictures far = Due.told(FIVE + SIX + "trip = 1;");
        far.send(0, 4);
        far.days(1);
        far.send(0, 3);
        q.is("lent(0, 4)", far.lent(0, 4), 1);
        q.is("lent(4, 3)", far.lent(4, 3), 1);
        q.is("lent(3, 4)", far.lent(3, 4), 0);
        q.by("Promise 29", "NONE: no such ones, one and the same.");
        for (int h = 0; h < 3; h++) {
            q.is("lent(" + h + ", " + h + ")", x.lent(h, h), -1);
        }
        for (int i : outside(2)) {
            q.changesNothing("lent(" + i + ", 0)", y -> y.lent(i, 0), -1);
            q.is("lent(0, " + i + ")", Quoted.busy().lent(0, i), -1);
            q.is("lent(" + i + ", " + i + ")", Quoted.busy().lent(i, i), -1);
        }
    }
}
