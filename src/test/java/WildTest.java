import java.util.Random;

/** Whatever is called in whatever state: nothing throws, nothing that can't be does anything. All promises' wrong inputs. */
public final class WildTest {
    private static final int[] EDGES = {Integer.MIN_VALUE, Integer.MIN_VALUE + 1, -1000000000, -33, -32, -31, -2, -1, 0, 1, 2, 3, 4, 5, 6, 7, 9,
        10, 11, 12, 19, 20, 29, 30, 31, 32, 33, 64, 100, 101, 359, 360, 600, 999999, 1000000, 99999999, 100000000, Integer.MAX_VALUE - 1,
        Integer.MAX_VALUE};
    private static final String[] TEXTS = {"mine 1=1;step 0 100;relief off;", "mine home=1;take pay 999999*amount;step 5 5;relief free;",
        "take through amount/7*nights-most;take pay 50;", "mine nights>most;take let 100;relief off;", "free 999999;step 999999 100;mine 1=1;"};
    private static final String[] PACTS = {"relief off;look;", "relief free;", "test home;test nights;", "only pay;top let 0;", "look;top through 50;"};

    private final Random random;
    private final FiveLands x = new FiveLands();

    private WildTest(long seed) {
        random = new Random(seed);
    }

    public static void main(String[] args) {
        for (int seed = 0; seed < 400; seed++) {
            WildTest test = new WildTest(seed);
            for (int i = 0; i < 512; i++) {
                test.call(seed % 2 == 0);
            }
        }
        greatest();
        Tests.finish();
    }

    private int n(boolean wild) {
        return wild && random.nextInt(4) == 0 ? EDGES[random.nextInt(EDGES.length)] : random.nextInt(6);
    }

    private void call(boolean wild) {
        int a = n(wild);
        int b = n(wild);
        int c = n(wild);
        int d = n(wild);
        int e = n(wild);
        int f = n(wild);
        switch (random.nextInt(26)) {
            case 0 -> x.night(a % 2, b * 60, c * 60, d);
            case 1 -> x.night(a, b, c, d);
            case 2 -> x.home(a, b, random.nextBoolean());
            case 3 -> x.tie(a, b, c);
            case 4 -> x.sum(a % 2, b, c, d * 1000 + 1, e, f);
            case 5 -> x.feed(random.nextInt(), a, b << 24, c, d);
            case 6 -> x.end(a);
            case 7 -> x.text(a, b);
            case 8 -> Tests.law(x, a, TEXTS[random.nextInt(TEXTS.length)]);
            case 9 -> Tests.pact(x, a, b, PACTS[random.nextInt(PACTS.length)]);
            case 10 -> x.fault(a);
            case 11 -> x.of(a % 2, b, c);
            case 12 -> x.decides(a, b, c);
            case 13 -> x.tax(a, b);
            case 14 -> x.takes(a, b, c, d);
            case 15 -> x.owes(a, b);
            case 16 -> x.edge(a, b, c, d);
            case 17 -> x.hangs(a, b);
            case 18 -> x.move(a, b);
            case 19 -> x.best(a, b);
            case 20 -> x.turning(a, b, c);
            case 21 -> x.sly(a);
            case 22 -> x.word(a, b, c, d);
            case 23 -> Tests.due("mend is a set", 1, x.mend() < 64 ? 1 : 0);
            case 24 -> x.round(a, b, c, d);
            default -> {
                x.answer(a, b, c, d);
                Tests.due("judged is an answer", 1, x.judged() < x.look(5) ? 1 : 0);
                x.look(a);
            }
        }
    }

    /** Everything at its greatest: six LANDS in one ring, twelve SUMS, six TURNINGS, six WORDS. */
    private static void greatest() {
        FiveLands x = new FiveLands();
        for (int l = 0; l < 6; l++) {
            Tests.law(x, l, "mine 1=1;step 0 100;relief off;");
        }
        for (int i = 0; i < 12; i++) {
            x.sum(0, 5, 0, 999999, i % 6, i % 6);
            x.sum(1, 0, 0, 999999, i % 6, i % 6);
        }
        for (int k = 0; k < 6; k++) {
            x.turning(k, k, 0);
            x.word(k, (k + 1) % 6, k % 5, k);
        }
        Tests.due("six answers", 6, x.takes(0, 0, 0, 3));
        Tests.due("the least set takes all", 99999900, x.takes(0, 0, 0, 2));
        Tests.due("owes once", 99999900L * 12, x.owes(0, 0));
        Tests.due("no turning pays", 0, x.mend());
        Tests.due("none is sly", 0, x.sly(0));
    }
}
