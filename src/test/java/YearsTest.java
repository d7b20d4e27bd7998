import java.util.Random;

/** "YEARS are 0 (his) and 1 (that of somebody honest), both with all that follows": each answers as the other one would. */
public final class YearsTest {
    private static final String[] LAWS = {
        "mine nights>100 or bond=1;free 500;step 0 10;step 2000 30;relief off;take pay nights/5;",
        "mine home=1;step 100 7;take share 20+in;take pay 10 when pays=1;relief off;",
        "mine nights>most;step 0 25;relief free;take let amount/50;take share 9;",
        "take share 30 when nights>20;take through 2;take pay home*30+4;take let 5;",
        "mine birth=1 and not nights<30;step 0 40;relief no;take gain 33;",
        "take pay 50 when in=1;take share bond*40;take gain most/9;"};
    private static final String[] PACTS = {"test home;test nights;top pay 15;look;", "test bond;test birth;only share;relief off;",
        "look;top share 5;relief free;", "test nights;relief off;top gain 12;"};

    public static void main(String[] args) {
        // An object is used for 512 calls: each YEAR is asked of one of its own.
        for (int run = 0; run < 600; run++) {
            int seed = run / 2;
            FiveLands x = told(seed);
            FiveLands swapped = told(seed);
            fill(new Random(1000 + seed), x, swapped, 0);
            fill(new Random(2000 + seed), x, swapped, 1);
            Random r = new Random(seed);
            for (int k = 0; k < 3; k++) {
                int night = r.nextInt(360);
                int land = r.nextInt(6);
                x.move(night, land);
                swapped.move(night, land);
            }
            same("seed " + seed + " year " + run % 2, x, run % 2, swapped, 1 - run % 2);
        }
        Tests.finish();
    }

    private static FiveLands told(int seed) {
        FiveLands x = new FiveLands();
        for (int l = 0; l < 6; l++) {
            Tests.law(x, l, LAWS[l]);
        }
        int p = seed;
        for (int a = 0; a < 6; a++) {
            for (int b = a + 1; b < 6; b++) {
                p = p * 7 + 3;
                if (p % 3 != 0) {
                    Tests.pact(x, a, b, PACTS[Math.floorMod(p, 4)]);
                }
            }
        }
        return x;
    }

    private static void fill(Random r, FiveLands x, FiveLands swapped, int y) {
        for (int k = 0; k < 5; k++) {
            int from = r.nextInt(360);
            int to = Math.min(359, from + r.nextInt(200));
            int land = r.nextInt(7) - 1;
            Tests.due("night", x.night(y, from, to, land) ? 1 : 0, swapped.night(1 - y, from, to, land) ? 1 : 0);
            int home = r.nextInt(6);
            Tests.due("home", x.home(y, home, true) ? 1 : 0, swapped.home(1 - y, home, true) ? 1 : 0);
            int tied = r.nextInt(7) - 1;
            Tests.due("tie", x.tie(y, k % 2, tied) ? 1 : 0, swapped.tie(1 - y, k % 2, tied) ? 1 : 0);
            int[] s = {r.nextInt(6), r.nextInt(5), 1 + r.nextInt(9999), r.nextInt(6), r.nextInt(6)};
            int at = x.sum(y, s[0], s[1], s[2], s[3], s[4]);
            Tests.due("sum", at, swapped.sum(1 - y, s[0], s[1], s[2], s[3], s[4]));
        }
        if (y == 1) {
            x.sum(y, 0, 0, 5, 0, 0);
            swapped.sum(1 - y, 0, 0, 5, 0, 0);
        }
    }

    private static void same(String of, FiveLands x, int y, FiveLands z, int w) {
        for (int l = 0; l < 6; l++) {
            for (int what = 0; what < 8; what++) {
                Tests.due(of + " of " + l + " " + what, x.of(y, l, what), z.of(w, l, what));
            }
            for (int i = 0; i < 7; i++) {
                int what = (l + i) % 5;
                Tests.due(of + " takes " + i + " " + l + " " + what, x.takes(y, i, l, what), z.takes(w, i, l, what));
                Tests.due(of + " taken " + i + " " + l, x.takes(y, i, l, 2), z.takes(w, i, l, 2));
            }
            for (int m = 0; m < 6; m++) {
                Tests.due(of + " decides " + l + " " + m, x.decides(y, l, m), z.decides(w, l, m));
                Tests.due(of + " edge " + l + " " + m, x.edge(y, l, m, 1), z.edge(w, l, m, 1));
            }
            Tests.due(of + " edge of " + l, x.edge(y, l, (l + 1) % 6, 0), z.edge(w, l, (l + 1) % 6, 0));
            Tests.due(of + " hangs " + l, x.hangs(y, l), z.hangs(w, l));
            Tests.due(of + " owes " + l, x.owes(y, l), z.owes(w, l));
        }
        for (int what : new int[] {0, 1, 10, 11, 12}) {
            Tests.due(of + " best " + what, x.best(y, what), z.best(w, what));
        }
    }
}
