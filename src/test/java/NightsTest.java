/** Promises 15 to 18: EDGE, HANGS and MOVES. */
public final class NightsTest {
    private static final int NONE = FiveLands.NONE;
    private static final long NO_EDGE = -1000000000000L;

    public static void main(String[] args) {
        edges();
        bothWays();
        edgeByMost();
        edgeOwes();
        edgeWrong();
        hanging();
        moving();
        best();
        Tests.finish();
    }

    /** Promise 15: by more and by fewer nights. */
    private static void edges() {
        FiveLands x = new FiveLands();
        Tests.law(x, 0, "mine nights>183;");
        x.night(0, 0, 189, 0);
        x.night(0, 190, 289, 1);
        Tests.due("seven fewer", 7, x.edge(0, 0, 1, 0));
        Tests.due("seven fewer to a land of no nights", 7, x.edge(0, 0, 4, 0));
        x.night(0, 180, 189, NONE);
        Tests.due("four more", 4, x.edge(0, 0, 1, 0));
        Tests.due("none from a land without nights", NONE, x.edge(0, 0, 4, 0));
        Tests.due("rubbed nights don't move", NONE, x.edge(0, 0, 5, 0));
        Tests.due("1 has no law", NONE, x.edge(0, 1, 0, 0));
        Tests.law(x, 1, "mine nights=0;");
        Tests.due("all hundred", 100, x.edge(0, 1, 0, 0));
        Tests.law(x, 1, "mine nights=280;");
        Tests.due("all of the other one's", 180, x.edge(0, 1, 0, 0));
        Tests.law(x, 1, "mine nights=281;");
        Tests.due("more than there are", NONE, x.edge(0, 1, 0, 0));
    }

    /** Promise 15: of both ways at one n from the first to the second. */
    private static void bothWays() {
        FiveLands x = new FiveLands();
        Tests.law(x, 0, "mine nights=10;step 0 10;");
        Tests.law(x, 1, "mine nights>20;step 0 30;");
        x.night(0, 0, 9, 0);
        x.night(0, 10, 29, 1);
        x.sum(0, 0, 0, 100, 5, 5);
        Tests.due("one night", 1, x.edge(0, 0, 1, 0));
        Tests.due("goes to the second: it says so then", 2000, x.edge(0, 0, 1, 1));
        Tests.law(x, 0, "mine nights=12;mine nights=7;step 0 10;");
        Tests.due("two come from the second", 2, x.edge(0, 0, 1, 0));
        Tests.due("and 0 takes", 1000, x.edge(0, 0, 1, 1));
        Tests.law(x, 0, "mine nights=12;mine nights=8;step 0 10;");
        Tests.due("two either way", 2, x.edge(0, 0, 1, 0));
        Tests.due("both take", 4000, x.edge(0, 0, 1, 1));
    }

    private static void edgeByMost() {
        FiveLands x = new FiveLands();
        Tests.law(x, 0, "mine nights>most;");
        x.night(0, 0, 99, 0);
        x.night(0, 100, 189, 1);
        x.night(0, 190, 285, 2);
        Tests.due("five to 1 are alike", 4, x.edge(0, 0, 1, 0));
        Tests.due("two to 2", 2, x.edge(0, 0, 2, 0));
    }

    private static void edgeOwes() {
        FiveLands x = new FiveLands();
        Tests.law(x, 0, "mine nights>9;step 0 50;");
        Tests.law(x, 1, "take pay nights;");
        x.night(0, 0, 9, 0);
        x.sum(0, 0, 0, 10, 1, 1);
        Tests.due("owes now", 500, x.owes(0, 0));
        Tests.due("owes less", 10 - 500, x.edge(0, 0, 1, 1));
        Tests.due("owes now still", 500, x.owes(0, 0));
        Tests.due("nights are as they were", 10, x.of(0, 0, 0));
    }

    private static void edgeWrong() {
        FiveLands x = new FiveLands();
        Tests.law(x, 0, "mine nights>0;");
        x.night(0, 0, 0, 0);
        Tests.due("there is one", 1, x.edge(0, 0, 1, 0));
        int[][] bad = {{0, 0, 0}, {2, 0, 1}, {-1, 0, 1}, {0, 6, 1}, {0, -1, 1}, {0, 0, 6}, {0, 0, -1}, {1, 0, 1}};
        for (int[] b : bad) {
            Tests.due("no edge", NONE, x.edge(b[0], b[1], b[2], 0));
            Tests.due("no edge, 1", NO_EDGE, x.edge(b[0], b[1], b[2], 1));
            Tests.due("no edge, 2", NONE, x.edge(b[0], b[1], b[2], 2));
        }
        Tests.due("what 2", NONE, x.edge(0, 0, 1, 2));
        Tests.due("what -1", NONE, x.edge(0, 0, 1, -1));
    }

    /** Promise 16. */
    private static void hanging() {
        hangs("mine nights>100;", 100, 210, 2);
        hangs("mine nights>100;", 101, 209, 1);
        hangs("mine nights>100;", 51, 259, 2);
        hangs("mine nights>100;", 50, 260, 0);
        hangs("mine nights=70;", 50, 260, 2);
        hangs("mine nights=70;", 70, 290, 1);
        hangs("mine nights=70;", 69, 291, 0);
        hangs("mine nights=101;", 50, 260, 0);
        hangs("mine nights>49 and nights<101;", 50, 260, 1);
        hangs("mine most>349;", 10, 300, 2);
        hangs("mine most>350;", 10, 300, 0);
        hangs("mine most>299;", 10, 300, 1);
        hangs("mine most>349 and nights>10;", 10, 300, 0);
        hangs("mine most=330 and nights=30;", 10, 300, 2);
        hangs("mine most=150 and nights=110;", 0, 100, 2);
        hangs("mine most=100 and nights=110;", 0, 100, 0);
        hangs("mine most=100 and nights=160;", 0, 100, 2);
        hangs("", 0, 0, 0);
        hangs("mine 1=1;", 0, 0, 1);
        hangs("mine nights+most=360;", 0, 0, 1);
        FiveLands x = new FiveLands();
        Tests.due("year 2", NONE, x.hangs(2, 0));
        Tests.due("year -1", NONE, x.hangs(-1, 0));
        Tests.due("land 6", NONE, x.hangs(0, 6));
        Tests.due("land -1", NONE, x.hangs(0, -1));
    }

    /** So many nights in LAND 2 and in LAND 3, all others are rubbed out. */
    private static void hangs(String law, int here, int there, int want) {
        FiveLands x = new FiveLands();
        Tests.law(x, 2, law);
        x.night(1, 0, here - 1, 2);
        x.night(1, here, here + there - 1, 3);
        Tests.due("rubbed out", 360 - here - there, x.owes(1, 5));
        Tests.due("hangs by " + law + " with " + here + " and " + there, want, x.hangs(1, 2));
        Tests.due("nights stay by " + law, here, x.of(1, 2, 0));
    }

    /** Promise 17. */
    private static void moving() {
        FiveLands x = new FiveLands();
        Tests.due("night 360", NONE, x.move(360, 0));
        Tests.due("night -1", NONE, x.move(-1, 0));
        Tests.due("land 6", NONE, x.move(0, 6));
        Tests.due("land NONE", NONE, x.move(0, NONE));
        for (int k = 0; k < 20; k++) {
            Tests.due("move " + k, k, x.move(k == 0 ? 359 : k - 1, k % 6));
        }
        Tests.due("the 21st", NONE, x.move(0, 0));
        Tests.due("the last one counts", 0, x.best(0, 29));
        Tests.due("none behind it", NONE, x.best(0, 30));
    }

    /** Promise 18. */
    private static void best() {
        FiveLands x = new FiveLands();
        Tests.law(x, 0, "mine nights>9;step 0 50;");
        Tests.law(x, 1, "mine home=1 and nights>4;step 0 20;");
        Tests.law(x, 2, "mine home=1 and bond=1;step 0 7;take pay nights;");
        x.tie(0, 0, 2);
        x.home(0, 5, true);
        x.night(0, 0, 19, 0);
        x.sum(0, 0, 0, 100, 0, 0);
        Tests.due("owes", 5000, x.best(0, 1));
        Tests.due("no move", NONE, x.best(0, 0));
        x.move(5, 5);
        Tests.due("five nights are left, no home", 0, x.best(0, 10));
        Tests.due("it is best", 0, x.best(0, 0));
        Tests.due("by 0", 0, x.best(0, 1));
        x.move(10, 1);
        Tests.due("0 and 1 take", 7000, x.best(0, 11));
        x.move(359, 2);
        Tests.due("a home in 2", 5700, x.best(0, 12));
        x.move(0, 5);
        Tests.due("as good as the first", 0, x.best(0, 13));
        Tests.due("the first is best", 0, x.best(0, 0));
        Tests.due("what 14", NONE, x.best(0, 14));
        Tests.due("what 2", NONE, x.best(0, 2));
        Tests.due("what 9", NONE, x.best(0, 9));
        Tests.due("what -1", NONE, x.best(0, -1));
        Tests.due("what MAX", NONE, x.best(0, Integer.MAX_VALUE));
        Tests.due("what MIN", NONE, x.best(0, Integer.MIN_VALUE));
        Tests.due("year 2", NONE, x.best(2, 0));
        Tests.due("year -1", NONE, x.best(-1, 10));
        Tests.due("in year 1 none is better", NONE, x.best(1, 0));
        Tests.due("homes are as they were", 1, x.of(0, 5, 1));
        Tests.due("nights too", 20, x.of(0, 0, 0));
        Tests.due("and those rubbed out", 340, x.owes(0, 5));
        FiveLands z = new FiveLands();
        Tests.law(z, 3, "mine nights>0;step 0 1;");
        z.sum(1, 0, 0, 10, 0, 0);
        z.move(100, 3);
        z.move(200, 4);
        Tests.due("no move is as good", NONE, z.best(1, 0));
        Tests.due("a move makes it owe", 10, z.best(1, 10));
    }
}
