/** Promises 1 to 5, 10, 11 and 26: what is told of YEARS, and whose he is. */
public final class StateTest {
    private static final int NONE = FiveLands.NONE;
    private static final int MIN = Integer.MIN_VALUE;
    private static final int MAX = Integer.MAX_VALUE;

    public static void main(String[] args) {
        newObject();
        nights();
        homes();
        ties();
        sums();
        saysSo();
        givesWay();
        deciding();
        looks();
        Tests.finish();
    }

    /** Promise 1. */
    private static void newObject() {
        FiveLands x = new FiveLands();
        for (int y = 0; y < 2; y++) {
            for (int l = 0; l < 6; l++) {
                for (int what = 0; what < 7; what++) {
                    Tests.due("new of(" + y + "," + l + "," + what + ")", 0, x.of(y, l, what));
                }
                Tests.due("new of 7", NONE, x.of(y, l, 7));
                Tests.due("new hangs", 0, x.hangs(y, l));
                Tests.due("new tax", 0, x.tax(l, 1000));
                Tests.due("new edge", NONE, x.edge(y, l, (l + 1) % 6, 0));
            }
            for (int what = 0; what < 5; what++) {
                Tests.due("new owes(" + y + "," + what + ")", 0, x.owes(y, what));
            }
            Tests.due("new owes 5", 360, x.owes(y, 5));
            Tests.due("new best 0", NONE, x.best(y, 0));
            Tests.due("new best 1", 0, x.best(y, 1));
            Tests.due("new best 10", NONE, x.best(y, 10));
        }
        Tests.due("new sly 0", 0, x.sly(0));
        Tests.due("new sly 1", 0, x.sly(1));
        Tests.due("new mend", 0, x.mend());
        Tests.due("new judged", NONE, x.judged());
        Tests.due("new fault 0", 0, x.fault(0));
        Tests.due("new fault 1", NONE, x.fault(1));
        Tests.due("NONE", -1, FiveLands.NONE);
        FiveLands one = new FiveLands();
        FiveLands other = new FiveLands();
        one.home(0, 0, true);
        Tests.law(one, 0, "mine home=1;");
        Tests.due("two objects share nothing", 0, other.of(0, 0, 1));
        other.home(0, 0, true);
        Tests.due("nor laws", 0, other.of(0, 0, 5));
    }

    /** Promise 2. */
    private static void nights() {
        FiveLands x = new FiveLands();
        Tests.yes("night 0..0", x.night(0, 0, 0, 0));
        Tests.yes("night 359..359", x.night(0, 359, 359, 5));
        Tests.yes("night 10..19", x.night(0, 10, 19, 3));
        Tests.due("in 0", 1, x.of(0, 0, 0));
        Tests.due("in 5", 1, x.of(0, 5, 0));
        Tests.due("in 3", 10, x.of(0, 3, 0));
        Tests.due("rubbed", 348, x.owes(0, 5));
        Tests.yes("night over others", x.night(0, 15, 24, 2));
        Tests.due("in 3 less", 5, x.of(0, 3, 0));
        Tests.due("in 2", 10, x.of(0, 2, 0));
        Tests.yes("rubbed again", x.night(0, 0, 17, NONE));
        Tests.due("in 3 none", 0, x.of(0, 3, 0));
        Tests.due("in 2 less", 7, x.of(0, 2, 0));
        Tests.due("rubbed at last", 352, x.owes(0, 5));
        Tests.due("the other year", 360, x.owes(1, 5));
        Tests.due("most beside 2", 1, x.of(0, 2, 4));
        Tests.due("most beside 5", 7, x.of(0, 5, 4));
        int[][] bad = {{-1, 0, 0, 0}, {2, 0, 0, 0}, {0, -1, 0, 0}, {0, 0, 360, 0}, {0, 5, 4, 0}, {0, 0, 0, 6}, {0, 0, 0, -2},
            {MIN, 0, 0, 0}, {0, MIN, MAX, 0}, {0, 0, MAX, 0}, {0, 0, 0, MIN}, {MAX, MAX, MAX, MAX}};
        for (int[] b : bad) {
            Tests.no("night that can't be", x.night(b[0], b[1], b[2], b[3]));
        }
        Tests.due("nothing done", 352, x.owes(0, 5));
        Tests.yes("year 1", x.night(1, 0, 359, 4));
        Tests.due("all in 4", 360, x.of(1, 4, 0));
        Tests.due("none is rubbed", 0, x.owes(1, 5));
    }

    /** Promise 3. */
    private static void homes() {
        FiveLands x = new FiveLands();
        Tests.yes("home 5", x.home(1, 5, true));
        Tests.yes("home 0", x.home(1, 0, true));
        Tests.due("home in 5", 1, x.of(1, 5, 1));
        Tests.due("home in 0", 1, x.of(1, 0, 1));
        Tests.due("not in year 0", 0, x.of(0, 5, 1));
        Tests.yes("home twice", x.home(1, 5, true));
        Tests.yes("home gone", x.home(1, 5, false));
        Tests.due("no home in 5", 0, x.of(1, 5, 1));
        Tests.due("still home in 0", 1, x.of(1, 0, 1));
        Tests.yes("home that is not there gone", x.home(1, 3, false));
        Tests.no("land 6", x.home(0, 6, true));
        Tests.no("land -1", x.home(0, NONE, true));
        Tests.no("year 2", x.home(2, 0, true));
        Tests.no("year -1", x.home(-1, 0, true));
        Tests.no("land 32", x.home(0, 32, true));
        Tests.due("nothing done", 0, x.of(0, 0, 1));
    }

    /** Promise 4. */
    private static void ties() {
        FiveLands x = new FiveLands();
        Tests.yes("bond", x.tie(0, 0, 2));
        Tests.yes("birth", x.tie(0, 1, 4));
        Tests.due("bond in 2", 1, x.of(0, 2, 2));
        Tests.due("no birth in 2", 0, x.of(0, 2, 3));
        Tests.due("birth in 4", 1, x.of(0, 4, 3));
        Tests.due("no bond in 4", 0, x.of(0, 4, 2));
        Tests.yes("bond moves", x.tie(0, 0, 3));
        Tests.due("bond left 2", 0, x.of(0, 2, 2));
        Tests.yes("bond none", x.tie(0, 0, NONE));
        Tests.due("bond left 3", 0, x.of(0, 3, 2));
        Tests.due("birth stays", 1, x.of(0, 4, 3));
        Tests.due("year 1 has none", 0, x.of(1, 4, 3));
        Tests.no("what 2", x.tie(0, 2, 0));
        Tests.no("what -1", x.tie(0, -1, 0));
        Tests.no("land 6", x.tie(0, 0, 6));
        Tests.no("land -2", x.tie(0, 1, -2));
        Tests.no("year 2", x.tie(2, 0, 0));
        Tests.due("birth still", 1, x.of(0, 4, 3));
    }

    /** Promise 5. */
    private static void sums() {
        FiveLands x = new FiveLands();
        int[][] bad = {{2, 0, 0, 1, 0, 0}, {-1, 0, 0, 1, 0, 0}, {0, 6, 0, 1, 0, 0}, {0, -1, 0, 1, 0, 0}, {0, 5, 5, 1, 0, 0},
            {0, 5, -1, 1, 0, 0}, {0, 0, 0, 0, 0, 0}, {0, 0, 0, 1000000, 0, 0}, {0, 0, 0, 1, 6, 0}, {0, 0, 0, 1, 0, 6},
            {0, 0, 0, 1, -1, 0}, {0, 0, 0, 1, 0, -1}, {0, 0, 0, MIN, 0, 0}, {0, MAX, 0, 1, 0, 0}};
        for (int[] b : bad) {
            Tests.due("sum that can't be", NONE, x.sum(b[0], b[1], b[2], b[3], b[4], b[5]));
        }
        Tests.due("no sums", 0, x.look(0));
        Tests.due("real not asked", 0, x.sum(0, 4, -77, 999999, 0, 5));
        Tests.due("its real one is its kind", 4, x.takes(0, 0, 0, 0));
        Tests.due("through", 1, x.sum(0, 5, 4, 1, 5, 0));
        Tests.due("seen as through", 5, x.takes(0, 1, 3, 0));
        for (int i = 2; i < 12; i++) {
            Tests.due("sum " + i, i, x.sum(0, 0, 0, 10, 0, 0));
        }
        Tests.due("the 13th", NONE, x.sum(0, 0, 0, 10, 0, 0));
        Tests.due("base", 1000100, x.owes(0, 4));
        Tests.due("year 1 has its own", 0, x.sum(1, 0, 0, 7, 0, 0));
        Tests.due("base of year 1", 7, x.owes(1, 4));
    }

    /** Promise 10: whether a LAND says so, by all that laws may ask. */
    private static void saysSo() {
        says("mine nights=10;", 1);
        says("mine nights<10;", 0);
        says("mine nights<11;", 1);
        says("mine nights>9;", 1);
        says("mine nights>10;", 0);
        says("mine home=1 and bond=1;", 0);
        says("mine home=1 or bond=1;", 1);
        says("mine home=1 or bond=1 and birth=1;", 1);
        says("mine (home=1 or bond=1) and birth=1;", 0);
        says("mine not home=0;", 1);
        says("mine not not home=0;", 0);
        says("mine not home=1 or nights=10;", 1);
        says("mine not (home=1 or nights=10);", 0);
        says("mine most=20;", 1);
        says("mine in=0 and pays=0 and amount=0;", 1);
        says("mine in=1;", 0);
        says("mine 1=2;mine nights=10;", 1);
        says("mine 1=2;mine 1=3;", 0);
        says("", 0);
        says("take pay 1;", 0);
        says("mine 2+3*4-6/4=13;", 1);
        says("mine 10-3-2=5;", 1);
        says("mine 20/3/2=3;", 1);
        says("mine 20/3*2=12;", 1);
        says("mine 0-7/2=0-3;", 1);
        says("mine nights-30/20=9;", 1);
        says("mine 999999*999999+729379*1000+967=0 and 999999*999999<0;", 1);
        says("mine 999999*999999*999999<0;", 0);
        says("mine 3*nights-most=10;", 1);
        FiveLands x = new FiveLands();
        int[][] bad = {{2, 0, 0}, {-1, 0, 0}, {0, 6, 0}, {0, -1, 0}, {0, 0, 8}, {0, 0, -1}, {0, 0, MAX}, {MIN, MIN, MIN}};
        for (int[] b : bad) {
            Tests.due("of that can't be", NONE, x.of(b[0], b[1], b[2]));
        }
    }

    /** Ten nights and a home in LAND 1, twenty nights in LAND 2. */
    private static void says(String law, int want) {
        FiveLands x = new FiveLands();
        x.night(0, 0, 9, 1);
        x.night(0, 10, 29, 2);
        x.home(0, 1, true);
        Tests.law(x, 1, law);
        Tests.due("says by " + law, want, x.of(0, 1, 5));
        Tests.due("is his by " + law, want, x.of(0, 1, 6));
    }

    /** Promise 10: who gives way, all at once. */
    private static void givesWay() {
        FiveLands x = new FiveLands();
        for (int l = 0; l < 4; l++) {
            Tests.law(x, l, "mine 1=1;");
        }
        x.home(0, 1, true);
        x.night(0, 0, 9, 0);
        x.night(0, 10, 14, 3);
        Tests.due("all are his without pacts", 15, x.owes(0, 3));
        Tests.pact(x, 0, 1, "test home;");
        Tests.due("0 gives way to 1", 1, x.of(0, 0, 7));
        Tests.due("1 to none", NONE, x.of(0, 1, 7));
        Tests.pact(x, 0, 3, "test nights;");
        Tests.due("3 gives way to 0, though 0 gives way itself", 0, x.of(0, 3, 7));
        Tests.due("his are 1 and 2", 6, x.owes(0, 3));
        Tests.due("0 still says so", 1, x.of(0, 0, 5));
        Tests.pact(x, 0, 2, "test bond;");
        x.tie(0, 0, 2);
        Tests.due("the first to which it gives way", 1, x.of(0, 0, 7));
        x.home(0, 1, false);
        Tests.due("then the next", 2, x.of(0, 0, 7));
        Tests.pact(x, 0, 2, "only pay;");
        Tests.due("a pact without a test", NONE, x.of(0, 0, 7));
    }

    /** Promise 11. */
    private static void deciding() {
        FiveLands x = new FiveLands();
        Tests.law(x, 2, "mine 1=1;");
        Tests.law(x, 4, "mine 1=1;");
        Tests.due("no pact", NONE, x.decides(0, 2, 4));
        Tests.due("seven lines", 7, Tests.pact(x, 2, 4, "look;test home;test bond;test nights;top pay 3;test home;test birth;"));
        Tests.due("none decides", NONE, x.decides(0, 2, 4));
        x.tie(0, 1, 4);
        Tests.due("birth", 4, x.decides(0, 2, 4));
        Tests.due("2 gives way", 4, x.of(0, 2, 7));
        x.night(0, 0, 5, 2);
        x.night(0, 6, 11, 4);
        Tests.due("as many nights don't decide", 4, x.decides(0, 2, 4));
        x.night(0, 12, 12, 2);
        Tests.due("nights", 2, x.decides(0, 2, 4));
        Tests.due("4 gives way", 2, x.of(0, 4, 7));
        x.tie(0, 0, 4);
        Tests.due("bond", 1, x.decides(0, 4, 2));
        x.home(0, 2, true);
        Tests.due("home", 0, x.decides(0, 4, 2));
        x.home(0, 4, true);
        Tests.due("a home in both doesn't decide", 1, x.decides(0, 4, 2));
        Tests.due("year 1", NONE, x.decides(1, 2, 4));
        Tests.law(x, 2, "mine 1=2;");
        Tests.due("not both say so", NONE, x.decides(0, 2, 4));
        int[][] bad = {{0, 2, 2}, {2, 2, 4}, {-1, 2, 4}, {0, 6, 4}, {0, 2, -1}, {0, MIN, MAX}};
        for (int[] b : bad) {
            Tests.due("decides that can't be", NONE, x.decides(b[0], b[1], b[2]));
        }
    }

    /** Promise 26. */
    private static void looks() {
        FiveLands x = new FiveLands();
        for (int what = 0; what < 6; what++) {
            Tests.due("look(" + what + ") at first", 0, x.look(what));
        }
        x.sum(0, 0, 0, 1, 0, 0);
        x.sum(1, 0, 0, 1, 0, 0);
        x.sum(1, 0, 0, 1, 0, 0);
        for (int i = 0; i < 3; i++) {
            x.move(i, 0);
        }
        for (int i = 0; i < 4; i++) {
            x.turning(0, i, 0);
        }
        for (int i = 0; i < 5; i++) {
            x.word(0, 1, 0, 0);
        }
        for (int i = 0; i < 6; i++) {
            x.answer(2, 0, 0, i);
        }
        for (int what = 0; what < 6; what++) {
            Tests.due("look(" + what + ")", what + 1, x.look(what));
        }
        Tests.due("look(6)", NONE, x.look(6));
        Tests.due("look(-1)", NONE, x.look(-1));
        Tests.due("look(MIN)", NONE, x.look(MIN));
    }
}
