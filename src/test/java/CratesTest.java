/** Promises 30 to 34: list, forget, fits, least, sure. */
public final class CratesTest {
    private static final Due DUE = new Due("CratesTest");
    private static final String THREE = "house a 1 1; house b 1 1; work x a a 1 10; work y a b 1 20; work z b b 9 99;";

    private static void lists() {
        LentPictures x = Due.told(THREE);
        DUE.is("list(3, 0, 1)", x.list(3, 0, 1), -1);
        DUE.is("list(-1, 0, 1)", x.list(-1, 0, 1), -1);
        DUE.is("list(0, 3, 1)", x.list(0, 3, 1), -1);
        DUE.is("list(0, -1, 1)", x.list(0, -1, 1), -1);
        DUE.is("list(0, 0, 10)", x.list(0, 0, 10), -1);
        DUE.is("list(0, 0, -1)", x.list(0, 0, -1), -1);
        DUE.is("list(0, 1, 100)", x.list(0, 1, 100), -1);
        DUE.is("list(0, 1, -1)", x.list(0, 1, -1), -1);
        DUE.is("list(0, 2, 2)", x.list(0, 2, 2), -1);
        DUE.is("list(0, 2, -1)", x.list(0, 2, -1), -1);
        DUE.is("list(0, 3, 0)", x.list(0, 3, 0), -1);
        DUE.is("count(10)", x.count(10), 0);
        DUE.is("list(0, 0, 9)", x.list(0, 0, 9), 0);
        DUE.is("list(1, 1, 99)", x.list(1, 1, 99), 1);
        DUE.is("list(2, 2, 1)", x.list(2, 2, 1), 2);
        DUE.is("list(2, 0, 0)", x.list(2, 0, 0), 3);
        DUE.is("list(2, 1, 0)", x.list(2, 1, 0), 4);
        for (int i = 5; i < 20; i++) {
            DUE.is("list " + i, x.list(0, 0, 1), i);
        }
        DUE.is("the 21st list", x.list(0, 0, 1), -1);
        DUE.is("count(10)", x.count(10), 20);
        DUE.is("lists are nothing done", x.count(9), 0);
        DUE.is("fits(20, 20)", x.fits(20, 20), 0);
        DUE.is("fits(21, 0)", x.fits(21, 0), -1);
        DUE.is("forget()", x.forget(), 20);
        DUE.is("forget() again", x.forget(), 0);
        DUE.is("list(0, 0, 1)", x.list(0, 0, 1), 0);
        Due.tell(x, "house");
        DUE.is("a text with a fault forgets none", x.count(10), 1);
        Due.tell(x, "house a 1 1; work x a a 1 1;");
        DUE.is("a good one forgets all", x.count(10), 0);
        DUE.is("list(0, 0, 1)", x.list(0, 0, 1), 0);
        x.hold(0);
        x.forget();
        x.restore(0);
        DUE.is("lists are not held", x.count(10), 0);
    }

    private static void ways() {
        LentPictures x = Due.told(THREE);
        DUE.is("fits(0, 0)", x.fits(0, 0), 6);
        DUE.is("fits(0, 1)", x.fits(0, 1), 0);
        DUE.is("sure(0, 0)", x.sure(0, 0), -2);
        x.list(0, 0, 9);
        DUE.is("fits(1, 0)", x.fits(1, 0), 2);
        DUE.is("fits(1, 1)", x.fits(1, 1), 4);
        DUE.is("least(1)", x.least(1), 0);
        DUE.is("sure(1, 0)", x.sure(1, 0), 2);
        DUE.is("sure(1, 1)", x.sure(1, 1), -2);
        x.list(1, 1, 20);
        DUE.is("sure(2, 1)", x.sure(2, 1), 1);
        DUE.is("sure(2, 2)", x.sure(2, 2), 0);
        DUE.is("known by 1: sure(1, 1)", x.sure(1, 1), -2);
        x.list(1, 2, 1);
        DUE.is("they disagree: fits(3, 0)", x.fits(3, 0), 0);
        DUE.is("they disagree: least(3)", x.least(3), 1);
        DUE.is("they disagree: fits(3, 1)", x.fits(3, 1), 1);
        DUE.is("they disagree: fits(3, 2)", x.fits(3, 2), 4);
        DUE.is("they disagree: fits(3, 3)", x.fits(3, 3), 1);
        DUE.is("they disagree: sure(3, 0)", x.sure(3, 0), 2);
        x.list(1, 2, 1);
        DUE.is("told twice: least(4)", x.least(4), 2);
        DUE.is("told twice: fits(4, 2)", x.fits(4, 2), 3);
        DUE.is("told twice: sure(4, 1)", x.sure(4, 1), -2);
        DUE.is("known by 3 as ahead: least(3)", x.least(3), 1);
    }

    private static void edges() {
        LentPictures x = Due.told(THREE);
        x.list(0, 0, 0);
        DUE.is("fits(-1, 0)", x.fits(-1, 0), -1);
        DUE.is("fits(2, 0)", x.fits(2, 0), -1);
        DUE.is("fits(1, -1)", x.fits(1, -1), -1);
        DUE.is("fits(1, 21)", x.fits(1, 21), -1);
        DUE.is("fits(1, 20)", x.fits(1, 20), 0);
        DUE.is("least(-1)", x.least(-1), -1);
        DUE.is("least(2)", x.least(2), -1);
        DUE.is("least(1): none fits", x.least(1), 1);
        DUE.is("fits(1, 1)", x.fits(1, 1), 6);
        DUE.is("sure(-1, 0)", x.sure(-1, 0), -1);
        DUE.is("sure(2, 0)", x.sure(2, 0), -1);
        DUE.is("sure(1, 3)", x.sure(1, 3), -1);
        DUE.is("sure(1, -1)", x.sure(1, -1), -1);
        DUE.is("fits(greatest, 0)", x.fits(Integer.MAX_VALUE, 0), -1);
        LentPictures most = Due.told("house a 1 1; work u a a 1 10; work v a a 2 10; work w a a 3 10; work x a a 4 10;"
            + "work y a a 5 10; work z a a 6 10;");
        DUE.is("six works: fits(0, 0)", most.fits(0, 0), 720);
        for (int i = 0; i < 20; i++) {
            most.list(i % 6, 0, 0);
        }
        DUE.is("all wrong: fits(20, 20)", most.fits(20, 20), 720);
        DUE.is("all wrong: least(20)", most.least(20), 20);
        LentPictures one = Due.told("house a 1 1; work x a a 1 1;");
        DUE.is("one work: sure(0, 0)", one.sure(0, 0), 0);
        DUE.is("no works: least(0)", new LentPictures().least(0), 0);
    }

    public static void main(String[] args) {
        lists();
        ways();
        edges();
        DUE.end();
    }
}
