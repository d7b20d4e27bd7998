/** Promises 12 to 14: TAX, what each LAND takes of a SUM, and what he OWES. */
public final class LevyTest {
    private static final int NONE = FiveLands.NONE;

    public static void main(String[] args) {
        steps();
        ahead();
        parts();
        tops();
        seen();
        freed();
        reliefs();
        rings();
        fractions();
        owes();
        wrongInputs();
        Tests.finish();
    }

    /** Promise 12. */
    private static void steps() {
        FiveLands x = new FiveLands();
        Tests.law(x, 3, "step 100 10;step 200 50;free 1000;step 300 0;step 400 100;");
        long[][] due = {{0, 0}, {1000, 0}, {1100, 0}, {1101, 10}, {1200, 1000}, {1201, 1050}, {1300, 6000}, {1301, 6000}, {1400, 6000},
            {1401, 6100}, {99999999, 6000 + (99999999L - 1400) * 100}};
        for (long[] d : due) {
            Tests.due("tax of " + d[0], d[1], x.tax(3, (int) d[0]));
        }
        Tests.due("without steps", 0, x.tax(2, 5000));
        Tests.due("base -1", NONE, x.tax(3, -1));
        Tests.due("base above", NONE, x.tax(3, 100000000));
        Tests.due("base MIN", NONE, x.tax(3, Integer.MIN_VALUE));
        Tests.due("land 6", NONE, x.tax(6, 5));
        Tests.due("land -1", NONE, x.tax(-1, 5));
        Tests.law(x, 3, "free 10;");
        Tests.due("free without steps", 0, x.tax(3, 500));
        Tests.law(x, 3, "step 0 7;");
        Tests.due("no free any more", 3500, x.tax(3, 500));
    }

    /** Promise 13: TAX on THE BASE by the SUM's part, towards 0. */
    private static void ahead() {
        FiveLands x = new FiveLands();
        Tests.law(x, 0, "mine 1=1;step 10 33;");
        x.sum(0, 0, 0, 10, 1, 1);
        Tests.due("below the step", 0, x.takes(0, 0, 0, 1));
        x.sum(0, 1, 0, 7, 1, 1);
        Tests.due("tax on all", 231, x.tax(0, 17));
        Tests.due("ten of 17", 135, x.takes(0, 0, 0, 1));
        Tests.due("seven of 17", 95, x.takes(0, 1, 0, 1));
        Tests.due("owes as told, downwards", 230, x.owes(0, 0));
        FiveLands z = new FiveLands();
        Tests.law(z, 0, "mine 1=1;step 0 99;step 1 100;");
        for (int i = 0; i < 12; i++) {
            z.sum(1, 3, 0, 999999, 0, 0);
        }
        Tests.due("the greatest base", 11999988, z.owes(1, 4));
        Tests.due("the greatest tax", 99999899, z.takes(1, 11, 0, 1));
        Tests.due("all of it", 99999899L * 12, z.owes(1, 0));
    }

    /** Promise 13: a LAND that is not HIS takes by its first line that holds. */
    private static void parts() {
        part("take pay 30;", 3000);
        part("take let 30;", 0);
        part("", 0);
        part("take pay 30 when in=1;take pay 40;", 3000);
        part("take pay 30 when in=0;take pay 40;", 4000);
        part("take pay 30 when pays=1;", 0);
        part("take pay 30 when pays=0 and amount=100;", 3000);
        part("take let 9;take pay 30 when amount<100;take pay 20 when amount>99;take pay 50;", 2000);
        part("take pay 101;", 10000);
        part("take pay 999999*999999;", 0);
        part("take pay 0-5;", 0);
        part("take pay amount/3;", 3300);
        part("take pay nights*2+home*3+bond+birth+most;", 100 * (2 * 5 + 3 + 1 + 0 + 8));
        part("take pay 10 when nights=5 and most=8 and home=1;", 1000);
        part("take pay 1 when home=0;", 0);
        part("take pay 2*in+pays;", 200);
    }

    /** LAND 1 is not his, has five nights, a home and the bond; a SUM of 100 from it, paid from 2. */
    private static void part(String law, long want) {
        FiveLands x = new FiveLands();
        x.night(0, 0, 4, 1);
        x.night(0, 5, 12, 4);
        x.home(0, 1, true);
        x.tie(0, 0, 1);
        x.tie(0, 1, 2);
        x.sum(0, 0, 0, 100, 1, 2);
        Tests.law(x, 1, law);
        Tests.due("ahead by " + law, want, x.takes(0, 0, 1, 1));
        Tests.due("taken by " + law, want, x.takes(0, 0, 1, 2));
    }

    /** Promise 13: top and only bind by the PACTS with those that are HIS alone. */
    private static void tops() {
        FiveLands x = new FiveLands();
        Tests.law(x, 0, "mine home=1;");
        Tests.law(x, 1, "mine home=1;take pay 90;");
        Tests.law(x, 2, "take pay 60;take let 50;");
        x.home(0, 0, true);
        x.sum(0, 0, 0, 100, 2, 2);
        x.sum(0, 1, 0, 100, 2, 2);
        Tests.pact(x, 1, 2, "top pay 1;only pay;");
        Tests.due("1 is not his", 6000, x.takes(0, 0, 2, 1));
        Tests.pact(x, 0, 2, "top pay 20;top let 70;");
        Tests.due("at most top", 2000, x.takes(0, 0, 2, 1));
        Tests.due("less than top", 5000, x.takes(0, 1, 2, 1));
        Tests.pact(x, 0, 2, "top pay 20;only let;");
        Tests.due("only of another kind", 2000, x.takes(0, 0, 2, 1));
        Tests.due("only", 0, x.takes(0, 1, 2, 1));
        x.home(0, 1, true);
        Tests.pact(x, 1, 2, "top pay 5;");
        Tests.due("the least of both tops", 500, x.takes(0, 0, 2, 1));
        Tests.pact(x, 0, 1, "top pay 0;test nights;");
        Tests.due("1 is his: no top there", 0, x.takes(0, 0, 1, 1));
        x.night(0, 0, 0, 0);
        Tests.due("1 gives way: its top binds no more", 2000, x.takes(0, 0, 2, 1));
        Tests.due("but its own is bound", 0, x.takes(0, 0, 1, 1));
        Tests.pact(x, 0, 1, "test nights;");
        Tests.due("and without a top it takes", 9000, x.takes(0, 0, 1, 1));
    }

    /** Promise 13: as what a SUM through is SEEN. */
    private static void seen() {
        FiveLands x = new FiveLands();
        Tests.law(x, 0, "mine home=1;");
        Tests.law(x, 1, "mine bond=1;");
        x.home(0, 0, true);
        x.sum(0, 5, 2, 100, 3, 3);
        x.sum(0, 3, 2, 100, 3, 3);
        Tests.law(x, 2, "take gain 10;take through 20;");
        for (int l = 0; l < 6; l++) {
            Tests.due("without look " + l, 5, x.takes(0, 0, l, 0));
            Tests.due("not through " + l, 3, x.takes(0, 1, l, 0));
        }
        Tests.pact(x, 1, 2, "look;");
        Tests.due("look with one that is not his", 5, x.takes(0, 0, 2, 0));
        Tests.due("nor by the other one", 5, x.takes(0, 0, 1, 0));
        Tests.due("as through", 2000, x.takes(0, 0, 2, 1));
        Tests.pact(x, 0, 4, "look;");
        Tests.due("his own looks with any", 2, x.takes(0, 0, 0, 0));
        Tests.due("and the other one with it", 2, x.takes(0, 0, 4, 0));
        Tests.due("2 not yet", 5, x.takes(0, 0, 2, 0));
        Tests.pact(x, 0, 2, "look;top through 1;top gain 7;only share;");
        Tests.due("2 sees the gain", 2, x.takes(0, 0, 2, 0));
        Tests.due("its top is of the gain", 700, x.takes(0, 0, 2, 1));
        Tests.pact(x, 0, 2, "top through 1;top gain 7;");
        Tests.due("not looking, its top is of through", 100, x.takes(0, 0, 2, 1));
        x.tie(0, 0, 1);
        Tests.due("1 is his now: 2 looks with it", 2, x.takes(0, 0, 2, 0));
        Tests.due("and it with 2", 2, x.takes(0, 0, 1, 0));
        Tests.due("5 has no pact", 5, x.takes(0, 0, 5, 0));
    }

    /** Promise 13: FREED. */
    private static void freed() {
        FiveLands x = new FiveLands();
        Tests.law(x, 0, "mine home=1;step 0 30;relief free;");
        Tests.law(x, 1, "take pay 10;relief free;");
        x.home(0, 0, true);
        x.sum(0, 0, 0, 100, 1, 0);
        x.sum(0, 0, 0, 100, 0, 1);
        Tests.due("freed by the law", 1, x.takes(0, 0, 0, 4));
        Tests.due("takes nothing", 0, x.takes(0, 0, 0, 1));
        Tests.due("its own source", 0, x.takes(0, 1, 0, 4));
        Tests.due("takes all", 3000, x.takes(0, 1, 0, 1));
        Tests.due("one that is not his frees nothing", 0, x.takes(0, 1, 1, 4));
        Tests.pact(x, 0, 1, "relief off;");
        Tests.due("the pact comes first", 0, x.takes(0, 0, 0, 4));
        Tests.due("takes ahead", 3000, x.takes(0, 0, 0, 1));
        Tests.due("less what 1 takes", 2000, x.takes(0, 0, 0, 2));
        Tests.law(x, 0, "mine home=1;step 0 30;relief no;");
        Tests.due("still off", 2000, x.takes(0, 0, 0, 2));
        Tests.pact(x, 0, 1, "relief free;");
        Tests.due("freed by the pact", 1, x.takes(0, 0, 0, 4));
        Tests.pact(x, 0, 1, "look;");
        Tests.due("no relief", 3000, x.takes(0, 0, 0, 2));
    }

    /** Promise 13: TAKEN less what others take, 0 at least. */
    private static void reliefs() {
        FiveLands x = new FiveLands();
        Tests.law(x, 0, "mine home=1;step 0 30;relief off;");
        Tests.law(x, 1, "take pay 10;");
        Tests.law(x, 2, "take pay 15;");
        x.home(0, 0, true);
        x.sum(0, 0, 0, 100, 5, 5);
        Tests.due("less both", 500, x.takes(0, 0, 0, 2));
        Tests.due("ahead", 3000, x.takes(0, 0, 0, 1));
        Tests.pact(x, 0, 2, "relief free;");
        Tests.due("free with another than the source takes nothing off", 2000, x.takes(0, 0, 0, 2));
        Tests.law(x, 1, "take pay 50;");
        Tests.due("0 at least", 0, x.takes(0, 0, 0, 2));
        Tests.due("the other one takes all", 5000, x.takes(0, 0, 1, 2));
        Tests.due("one answer", 1, x.takes(0, 0, 0, 3));
    }

    /** LANDS 0 .. parts.length - 1 are HIS and take their parts of a SUM of 100. */
    private static FiveLands ring(int[] parts, boolean[] off) {
        FiveLands x = new FiveLands();
        for (int l = 0; l < parts.length; l++) {
            x.home(0, l, true);
            Tests.law(x, l, "mine home=1;step 0 " + parts[l] + ";" + (off[l] ? "relief off;" : ""));
        }
        x.sum(0, 3, 0, 100, 5, 5);
        return x;
    }

    private static void taken(String what, FiveLands x, long answers, long... due) {
        Tests.due(what + ": answers", answers, x.takes(0, 0, 0, 3));
        for (int l = 0; l < due.length; l++) {
            Tests.due(what + ": taken by " + l, due[l], x.takes(0, 0, l, 2));
        }
    }

    /** Promise 13: rings with one and several ANSWERS. */
    private static void rings() {
        boolean[] both = {true, true};
        taken("the greater one takes", ring(new int[] {20, 30}, both), 1, 0, 3000);
        taken("alike: two answers, the least set", ring(new int[] {20, 20}, both), 2, 2000, 0);
        taken("one takes off alone", ring(new int[] {20, 30}, new boolean[] {false, true}), 1, 2000, 1000);
        taken("neither takes off", ring(new int[] {20, 30}, new boolean[2]), 1, 2000, 3000);
        taken("nothing to take", ring(new int[] {0, 0}, both), 1, 0, 0);
        taken("all three off", ring(new int[] {20, 20, 20}, new boolean[] {true, true, true}), 3, 2000, 0, 0);
        FiveLands chain = ring(new int[] {20, 30, 25}, new boolean[3]);
        Tests.pact(chain, 0, 1, "relief off;");
        Tests.pact(chain, 1, 2, "relief off;");
        taken("a chain", chain, 3, 0, 3000, 0);
        FiveLands zero = ring(new int[] {20, 20, 10}, new boolean[3]);
        Tests.pact(zero, 0, 1, "relief off;");
        Tests.pact(zero, 1, 2, "relief off;");
        taken("a land of a set that would take just 0", zero, 2, 0, 2000, 0);
        FiveLands four = ring(new int[] {10, 10, 30, 30}, new boolean[] {false, false, true, true});
        Tests.pact(four, 0, 1, "relief off;");
        Tests.pact(four, 2, 3, "relief off;");
        taken("two pairs", four, 4, 1000, 0, 2000, 0);
        FiveLands eight = ring(new int[] {20, 30, 20, 20, 30}, new boolean[] {true, true, true, true, true});
        Tests.pact(eight, 0, 1, "relief off;");
        Tests.pact(eight, 0, 2, "relief free;");
        Tests.pact(eight, 0, 3, "relief free;");
        Tests.pact(eight, 2, 4, "relief off;");
        taken("eight answers", eight, 8, 0, 3000, 0, 0, 0);
        FiveLands singular = ring(new int[] {20, 20}, both);
        Tests.law(singular, 2, "take share 5;");
        taken("others ahead of the ring", singular, 2, 1500, 0, 500);
    }

    /** Promise 13: fractions, told downwards, and sets compared exactly. */
    private static void fractions() {
        FiveLands x = ring(new int[] {30, 20, 30, 30}, new boolean[] {true, true, true, true});
        Tests.pact(x, 0, 1, "relief free;");
        Tests.pact(x, 2, 3, "relief free;");
        taken("two free pairs", x, 3, 3000, 2000, 0, 0);
        FiveLands z = ring(new int[] {50, 50, 50, 80}, new boolean[4]);
        Tests.pact(z, 0, 3, "relief off;");
        Tests.pact(z, 1, 3, "relief off;");
        Tests.pact(z, 2, 3, "relief off;");
        taken("a star", z, 3, 5000, 5000, 5000, 0);
        FiveLands w = ring(new int[] {50, 90, 90, 50}, new boolean[4]);
        Tests.pact(w, 0, 1, "relief off;");
        Tests.pact(w, 1, 2, "relief off;");
        Tests.pact(w, 2, 3, "relief off;");
        taken("a path", w, 3, 5000, 0, 9000, 0);
        FiveLands thirds = ring(new int[] {50, 50, 50, 20, 50, 30}, new boolean[] {true, false, true, true, false, false});
        int[][] off = {{0, 2}, {1, 2}, {1, 3}, {0, 4}, {1, 4}, {2, 5}, {4, 5}};
        int[][] free = {{0, 1}, {2, 3}, {2, 4}, {3, 4}};
        for (int[] p : off) {
            Tests.pact(thirds, p[0], p[1], "relief off;");
        }
        for (int[] p : free) {
            Tests.pact(thirds, p[0], p[1], "relief free;");
        }
        taken("thirds", thirds, 3, 1666, 1666, 1666, 0, 1666, 0);
        Tests.due("owes as told", 4 * 1666, thirds.owes(0, 0));
    }

    /** Promise 14. */
    private static void owes() {
        FiveLands x = new FiveLands();
        Tests.law(x, 0, "mine home=1;step 0 10;relief free;");
        Tests.law(x, 1, "take pay 20;take let 5 when in=1;");
        x.home(0, 0, true);
        x.sum(0, 0, 0, 100, 0, 0);
        x.sum(0, 1, 0, 100, 2, 2);
        x.sum(0, 1, 0, 100, 1, 1);
        x.sum(0, 3, 0, 100, 0, 5);
        Tests.due("owes", 1000 + 2000 + 0 + 500 + 1000, x.owes(0, 0));
        Tests.due("nobody's", 2, x.owes(0, 1));
        Tests.due("twice", 1, x.owes(0, 2));
        Tests.due("his", 1, x.owes(0, 3));
        Tests.due("base", 400, x.owes(0, 4));
        Tests.due("rubbed", 360, x.owes(0, 5));
        Tests.due("year 1 owes nothing", 0, x.owes(1, 0));
        Tests.due("year 1 has nobody's", 0, x.owes(1, 1));
        Tests.due("year 1 is nobody's", 0, x.owes(1, 3));
        x.sum(1, 0, 0, 3, 0, 0);
        Tests.due("year 1 owes 1", 60, x.owes(1, 0));
        FiveLands few = new FiveLands();
        Tests.law(few, 0, "mine 1=1;free 999;step 0 1;");
        few.sum(0, 0, 0, 1, 0, 0);
        few.sum(0, 0, 0, 999, 0, 0);
        Tests.due("a tax of 1", 1, few.tax(0, 1000));
        Tests.due("hundredths as told: nobody takes any", 3, few.owes(0, 1));
    }

    private static void wrongInputs() {
        FiveLands x = new FiveLands();
        x.sum(0, 0, 0, 100, 0, 0);
        int[][] bad = {{2, 0, 0, 1}, {-1, 0, 0, 1}, {0, 1, 0, 1}, {0, -1, 0, 1}, {0, 0, 6, 1}, {0, 0, -1, 1}, {0, 0, 0, 5}, {0, 0, 0, -1},
            {1, 0, 0, 1}, {0, 0, 6, 0}, {0, 0, 6, 4}, {0, 1, 0, 3}, {0, 0, Integer.MIN_VALUE, 2}, {0, Integer.MAX_VALUE, 0, 2}};
        for (int[] b : bad) {
            Tests.due("takes that can't be", NONE, x.takes(b[0], b[1], b[2], b[3]));
        }
        Tests.due("the land is not asked for answers", 1, x.takes(0, 0, 77, 3));
        Tests.due("nor below 0", 1, x.takes(0, 0, -5, 3));
        Tests.due("owes of year 2", NONE, x.owes(2, 0));
        Tests.due("owes of year -1", NONE, x.owes(-1, 5));
        Tests.due("owes what 6", NONE, x.owes(0, 6));
        Tests.due("owes what -1", NONE, x.owes(0, -1));
    }
}
