import java.util.ArrayList;
import java.util.List;
import java.util.function.Supplier;
import java.util.function.ToLongFunction;

/** Behind each call that is refused, all other calls answer what they did ahead of it. All promises. */
public final class RefusedTest {
    private static final int NONE = FiveLands.NONE;
    private static final int MIN = Integer.MIN_VALUE;
    private static final int MAX = Integer.MAX_VALUE;
    private static final int PARTS = 4;

    /** A call, what it answers when it is refused, and whether it leaves the TAPE and the FAULT as they were. */
    private record Refusal(String name, long due, boolean tapeStays, ToLongFunction<FiveLands> call) { }

    public static void main(String[] args) {
        Tests.due("the snapshot sees all kinds of changes", 1, seesChanges() ? 1 : 0);
        inAllWorlds("new", FiveLands::new);
        inAllWorlds("some", RefusedTest::some);
        inAllWorlds("full", RefusedTest::full);
        whenFull();
        refusedTexts();
        refusedAsks();
        Tests.finish();
    }

    private static void inAllWorlds(String name, Supplier<FiveLands> world) {
        long[][] before = snapshots(world, x -> 0);
        for (Refusal r : neverTaken()) {
            check(name, world, r, before);
        }
    }

    private static void check(String name, Supplier<FiveLands> world, Refusal r, long[][] before) {
        for (int part = 0; part < PARTS; part++) {
            FiveLands x = world.get();
            Tests.due(r.name + " in the world " + name, r.due, r.call.applyAsLong(x));
            if (part < PARTS - 1 || r.tapeStays) {
                same(r.name + " in the world " + name, before[part], snapshot(x, part));
            }
        }
    }

    private static void same(String name, long[] before, long[] after) {
        Tests.due("as many answers behind " + name, before.length, after.length);
        for (int i = 0; i < before.length; i++) {
            Tests.due("answer " + i + " behind " + name, before[i], after[i]);
        }
    }

    private static long[][] snapshots(Supplier<FiveLands> world, ToLongFunction<FiveLands> first) {
        long[][] all = new long[PARTS][];
        for (int part = 0; part < PARTS; part++) {
            FiveLands x = world.get();
            first.applyAsLong(x);
            all[part] = snapshot(x, part);
        }
        return all;
    }

    /** One part of all answers: each on an object of its own, as an object is used for 512 calls. */
    private static long[] snapshot(FiveLands x, int part) {
        List<Long> all = new ArrayList<>();
        switch (part) {
            case 0 -> years(x, all);
            case 1 -> taking(x, all);
            case 2 -> plans(x, all);
            default -> tapeAndCounts(x, all);
        }
        return all.stream().mapToLong(Long::longValue).toArray();
    }

    private static void years(FiveLands x, List<Long> all) {
        for (int y = 0; y < 2; y++) {
            for (int l = 0; l < 6; l++) {
                for (int what = 0; what < 8; what++) {
                    all.add((long) x.of(y, l, what));
                }
                for (int m = l + 1; m < 6; m++) {
                    all.add((long) x.decides(y, l, m));
                }
                all.add((long) x.hangs(y, l));
            }
            for (int what = 0; what < 6; what++) {
                all.add(x.owes(y, what));
            }
        }
        for (int l = 0; l < 6; l++) {
            all.add(x.tax(l, 30000));
        }
    }

    private static void taking(FiveLands x, List<Long> all) {
        for (int y = 0; y < 2; y++) {
            for (int i = 0; i < 12; i++) {
                for (int l = i % 2; l < 6; l += 2) {
                    all.add(x.takes(y, i, l, 0));
                    all.add(x.takes(y, i, l, 1));
                    all.add(x.takes(y, i, l, 2));
                    all.add(x.takes(y, i, l, 4));
                }
                all.add(x.takes(y, i, 0, 3));
            }
        }
    }

    private static void plans(FiveLands x, List<Long> all) {
        for (int y = 0; y < 2; y++) {
            for (int l = 0; l < 6; l++) {
                for (int m = 0; m < 6; m++) {
                    all.add(x.edge(y, l, m, (l + m + y) % 2));
                }
            }
            for (int what = 0; what < 31; what += what == 1 ? 9 : 1) {
                all.add(x.best(y, what));
            }
        }
        for (int l = 0; l < 6; l++) {
            for (int m = 0; m < 6; m++) {
                all.add((long) x.round((l + m) % 5, l, m, 1));
                all.add((long) x.round((l + m) % 5, l, m, 2));
            }
        }
        all.add(x.sly(0));
        all.add(x.sly(1));
        all.add((long) x.mend());
        all.add((long) x.judged());
        for (int what = 0; what < 6; what++) {
            all.add((long) x.look(what));
        }
    }

    /** What the TAPE holds is told by what comes of it as a TEXT; how many there are, by the next ones. */
    private static void tapeAndCounts(FiveLands x, List<Long> all) {
        all.add((long) x.fault(0));
        all.add((long) x.fault(1));
        all.add((long) x.feed(0x3b667265, 0x6520373b, 0x20202020, 0x20202020, 0x20202020));
        all.add((long) x.text(5, NONE));
        all.add((long) x.fault(0));
        all.add((long) x.fault(1));
        all.add(x.tax(5, 100));
        for (int i = 0; i < 4; i++) {
            all.add((long) x.sum(0, 5, i, 70 + i, i, i + 1));
            all.add((long) x.sum(1, i, 0, 80 + i, i, i + 1));
            all.add((long) x.move(i, i));
            all.add((long) x.turning(0, i, i));
            all.add((long) x.word(i, i + 1, i, i));
            all.add((long) x.answer(2, 0, 0, i));
        }
        for (int what = 0; what < 6; what++) {
            all.add((long) x.look(what));
        }
        all.add(x.owes(0, 0));
        all.add(x.sly(1));
        all.add((long) x.mend());
        all.add((long) x.judged());
    }

    private static void laws(FiveLands x) {
        Tests.law(x, 0, "mine nights>90;take pay 20 when in=1;free 500;step 0 15;step 5000 35;relief off;");
        Tests.law(x, 1, "mine home=1 or birth=1;take share 15 when pays=1;take through 4;step 100 25;relief off;");
        Tests.law(x, 2, "mine bond=1;take let 30 when in=1;take gain amount/200;step 0 20;");
        Tests.law(x, 3, "mine nights>most and not home=0;step 0 40;relief free;");
        Tests.law(x, 4, "take pay 12;take let 13;take gain 14;take share 15;take pension 16;take through 2;");
        Tests.pact(x, 0, 1, "test home;test nights;top pay 10;relief off;");
        Tests.pact(x, 1, 2, "relief off;look;");
        Tests.pact(x, 0, 4, "only let;top pay 8;look;");
        Tests.pact(x, 2, 4, "top pay 3;");
        for (int y = 0; y < 2; y++) {
            x.night(y, 0, 99, y);
            x.night(y, 100, 149, 3);
            x.night(y, 150, 299, 4);
            x.home(y, 1, true);
            x.home(y, 3, true);
            x.tie(y, 0, 2);
            x.tie(y, 1, 1 - y);
        }
    }

    private static FiveLands some() {
        FiveLands x = new FiveLands();
        laws(x);
        for (int i = 0; i < 4; i++) {
            x.sum(0, i == 2 ? 5 : i, i, 1000 * (i + 1), i, 4);
            x.sum(1, i == 3 ? 5 : i, i, 900 * (i + 1), 4, i);
        }
        x.move(50, 5);
        x.move(200, 1);
        x.turning(0, 5, 1);
        x.turning(3, 5, 2);
        x.word(0, 4, 2, 5);
        x.word(2, 5, 0, 0);
        x.answer(0, 2, 0, 1);
        x.answer(2, 0, 0, 5);
        Tests.law(x, 5, "free 1;free");
        Tests.tape(x, "mine 1=1;step 3 3");
        return x;
    }

    private static FiveLands full() {
        FiveLands x = new FiveLands();
        laws(x);
        for (int i = 0; i < 12; i++) {
            x.sum(0, i % 6, i % 5, 1000 * (i + 1), i % 6, 4);
            x.sum(1, i % 6, i % 5, 900 * (i + 1), 4, i % 6);
        }
        for (int k = 0; k < 20; k++) {
            x.move(10 * k, k % 6);
        }
        for (int k = 0; k < 6; k++) {
            x.turning(2 * k, 5, k);
            x.word(k, (k + 1) % 6, k % 5, k);
        }
        for (int k = 0; k < 10; k++) {
            x.answer(0, k % 6, 0, x.of(0, k % 6, 6));
        }
        Tests.law(x, 5, "relief off;relief");
        Tests.tape(x, "mine 1=1;step 0 9" + " ".repeat(583));
        return x;
    }

    private static void add(List<Refusal> all, String name, ToLongFunction<FiveLands> call) {
        all.add(new Refusal(name, NONE, true, call));
    }

    private static void no(List<Refusal> all, String name, java.util.function.Predicate<FiveLands> call) {
        all.add(new Refusal(name, 0, true, x -> call.test(x) ? 1 : 0));
    }

    /** Calls that are refused in each world. */
    private static List<Refusal> neverTaken() {
        List<Refusal> all = new ArrayList<>();
        neverTakenOfYears(all);
        neverTakenSums(all);
        neverTakenPlans(all);
        for (int n : new int[] {-1, 601, MIN, MAX}) {
            no(all, "end " + n, x -> x.end(n));
        }
        return all;
    }

    private static void neverTakenOfYears(List<Refusal> all) {
        for (int y : new int[] {-1, 2, MIN, MAX}) {
            no(all, "night in year " + y, x -> x.night(y, 0, 359, 5));
            no(all, "home in year " + y, x -> x.home(y, 5, true));
            no(all, "tie in year " + y, x -> x.tie(y, 0, 5));
            add(all, "sum in year " + y, x -> x.sum(y, 0, 0, 5, 5, 5));
        }
        for (int n : new int[] {-1, 360, MIN, MAX}) {
            no(all, "night from " + n, x -> x.night(0, n, 359, 5));
            no(all, "night to " + n, x -> x.night(0, 1, n, 5));
            add(all, "move from " + n, x -> x.move(n, 5));
        }
        no(all, "night from 1 to 0", x -> x.night(0, 1, 0, 5));
        for (int l : new int[] {-2, 6, 64, MIN, MAX}) {
            no(all, "night in " + l, x -> x.night(0, 0, 359, l));
            no(all, "home in " + l, x -> x.home(0, l, true));
            no(all, "no home in " + l, x -> x.home(0, l, false));
            no(all, "bond to " + l, x -> x.tie(0, 0, l));
            no(all, "birth in " + l, x -> x.tie(0, 1, l));
        }
        no(all, "home in none", x -> x.home(0, NONE, true));
        for (int what : new int[] {-1, 2, MIN, MAX}) {
            no(all, "tie " + what, x -> x.tie(0, what, 5));
        }
    }

    private static void neverTakenSums(List<Refusal> all) {
        for (int n : new int[] {-1, 6, MIN, MAX}) {
            add(all, "sum of kind " + n, x -> x.sum(0, n, 0, 5, 5, 5));
            add(all, "sum of real " + n, x -> x.sum(0, 5, n, 5, 5, 5));
            add(all, "sum from " + n, x -> x.sum(0, 0, 0, 5, n, 5));
            add(all, "sum paid by " + n, x -> x.sum(1, 0, 0, 5, 5, n));
        }
        add(all, "sum of real 5", x -> x.sum(0, 5, 5, 5, 5, 5));
        for (int n : new int[] {0, -1, 1000000, MIN, MAX}) {
            add(all, "sum of amount " + n, x -> x.sum(0, 0, 0, n, 5, 5));
        }
        for (int n : new int[] {-1, 12, MIN, MAX}) {
            add(all, "turning of sum " + n, x -> x.turning(n, 5, 0));
            add(all, "answer of sum " + n, x -> x.answer(1, 5, n, 0));
        }
    }

    private static void neverTakenPlans(List<Refusal> all) {
        for (int n : new int[] {-1, 6, MIN, MAX}) {
            add(all, "move to " + n, x -> x.move(0, n));
            add(all, "turning to " + n, x -> x.turning(0, n, 0));
            add(all, "word of " + n, x -> x.word(n, 0, 0, 0));
            add(all, "word with " + n, x -> x.word(0, n, 0, 0));
            add(all, "word of sort " + n, x -> x.word(0, 5, n, 0));
            add(all, "word only " + n, x -> x.word(0, 5, 1, n));
            add(all, "word top " + n, x -> x.word(0, 5, 2, n));
            add(all, "answer of " + n, x -> x.answer(0, n, 0, 1));
            add(all, "answer by " + n, x -> x.answer(1, n, 0, 1));
            add(all, "answer of sort " + n, x -> x.answer(n, 0, 0, 1));
        }
        add(all, "word of one land", x -> x.word(5, 5, 0, 0));
        add(all, "word of sort 5", x -> x.word(0, 5, 5, 0));
        add(all, "answer of sort 3", x -> x.answer(3, 0, 0, 1));
        for (int n : new int[] {-1, 1000000, MIN, MAX}) {
            add(all, "turning at " + n, x -> x.turning(0, 5, n));
        }
        for (long v : new long[] {-1, 2, 1L << 32, Long.MIN_VALUE}) {
            add(all, "answer his " + v, x -> x.answer(0, 5, 0, v));
        }
    }

    /** What is taken elsewhere is refused where there are as many as there may be. */
    private static void whenFull() {
        List<Refusal> all = new ArrayList<>();
        add(all, "the 13th sum of year 0", x -> x.sum(0, 0, 0, 5, 5, 5));
        add(all, "the 13th sum of year 1", x -> x.sum(1, 5, 4, 999999, 5, 5));
        add(all, "feed beyond 600", x -> x.feed(-1, -1, -1, -1, -1));
        add(all, "the 21st move", x -> x.move(0, 5));
        add(all, "the seventh turning", x -> x.turning(0, 5, 0));
        add(all, "the seventh word", x -> x.word(0, 5, 2, 0));
        add(all, "the eleventh answer", x -> x.answer(2, 0, 0, 1));
        long[][] before = snapshots(RefusedTest::full, x -> 0);
        for (Refusal r : all) {
            check("full", RefusedTest::full, r, before);
        }
        List<Refusal> few = new ArrayList<>();
        no(few, "end of more than there is", x -> x.end(18));
        add(few, "turning of a sum that is not there", x -> x.turning(4, 5, 0));
        add(few, "answer of a sum that is not there", x -> x.answer(1, 5, 4, 0));
        long[][] some = snapshots(RefusedTest::some, x -> 0);
        for (Refusal r : few) {
            check("some", RefusedTest::some, r, some);
        }
    }

    /** "NONE: no such one .., or a FAULT (the TEXT stays as it was; the TAPE is empty in each case)". */
    private static void refusedTexts() {
        List<Refusal> all = new ArrayList<>();
        int[][] none = {{6, NONE}, {NONE, NONE}, {NONE, 0}, {1, 0}, {0, 0}, {5, 6}, {0, -2}, {MIN, MAX}, {64, NONE}};
        for (int[] n : none) {
            all.add(new Refusal("text of " + n[0] + " and " + n[1], NONE, false, x -> x.text(n[0], n[1])));
        }
        for (int l = 0; l < 6; l++) {
            int land = l;
            all.add(new Refusal("a law of " + l + " with a fault", NONE, false, x -> faulty(x, land, NONE)));
            if (l > 0) {
                all.add(new Refusal("a pact of 0 and " + l + " with a fault", NONE, false, x -> faulty(x, 0, land)));
            }
        }
        List<Supplier<FiveLands>> worlds = List.of(FiveLands::new, RefusedTest::some, RefusedTest::full);
        for (Supplier<FiveLands> world : worlds) {
            long[][] before = snapshots(world, x -> 0);
            long[] emptied = snapshots(world, x -> x.end(0) ? 1 : 0)[PARTS - 1];
            for (Refusal r : all) {
                check("any", world, r, before);
                FiveLands x = world.get();
                r.call.applyAsLong(x);
                long[] after = snapshot(x, PARTS - 1);
                System.arraycopy(emptied, 0, after, 0, 2);
                same("the tape is empty behind " + r.name, emptied, after);
            }
        }
    }

    private static long faulty(FiveLands x, int a, int b) {
        x.end(0);
        Tests.tape(x, b == NONE ? "mine 1=1;take pay 99;free 77;step 0 99;relief free;take" : "test birth;top pay 1;only let;relief free;look;look");
        return x.text(a, b);
    }

    /** Calls that only ask change nothing, whether they are answered or not. */
    private static void refusedAsks() {
        List<Refusal> all = new ArrayList<>();
        for (int n : new int[] {-1, 6, 64, MIN, MAX}) {
            add(all, "of land " + n, x -> x.of(0, n, 0));
            add(all, "decides with " + n, x -> x.decides(0, 0, n));
            add(all, "tax of " + n, x -> x.tax(n, 1));
            add(all, "takes by " + n, x -> x.takes(0, 0, n, 2));
            add(all, "owes " + n, x -> x.owes(0, n));
            add(all, "edge with " + n, x -> x.edge(0, 0, n, 0));
            add(all, "hangs of " + n, x -> x.hangs(0, n));
            add(all, "best " + n, x -> x.best(0, n == 6 ? 9 : n));
            add(all, "sly " + n, x -> x.sly(n));
            add(all, "round to " + n, x -> x.round(0, 0, n, 2));
            add(all, "look " + n, x -> x.look(n));
            add(all, "fault " + n, x -> x.fault(n));
        }
        long[][] before = snapshots(RefusedTest::full, x -> 0);
        for (Refusal r : all) {
            check("full", RefusedTest::full, r, before);
        }
        List<ToLongFunction<FiveLands>> asks = List.of(x -> x.of(1, 3, 5), x -> x.decides(0, 0, 1), x -> x.tax(0, 5), x -> x.takes(1, 2, 3, 2),
            x -> x.owes(1, 0), x -> x.edge(0, 0, 4, 1), x -> x.hangs(1, 3), x -> x.best(1, 0), x -> x.sly(1), x -> x.mend(),
            x -> x.round(0, 4, 5, 1), x -> x.judged(), x -> x.look(0), x -> x.fault(1));
        for (ToLongFunction<FiveLands> ask : asks) {
            long[][] after = snapshots(RefusedTest::full, ask);
            for (int part = 0; part < PARTS; part++) {
                same("an answered call", before[part], after[part]);
            }
        }
    }

    /** Each call that is taken is seen by some answer: else the comparing would show nothing. */
    private static boolean seesChanges() {
        List<ToLongFunction<FiveLands>> taken = List.of(x -> x.night(0, 0, 0, 5) ? 1 : 0, x -> x.night(1, 359, 359, 5) ? 1 : 0,
            x -> x.home(0, 5, true) ? 1 : 0, x -> x.home(1, 1, false) ? 1 : 0, x -> x.tie(0, 0, 5) ? 1 : 0, x -> x.tie(1, 1, 5) ? 1 : 0,
            x -> x.sum(0, 0, 0, 1, 5, 5), x -> x.sum(1, 0, 0, 1, 5, 5), x -> x.feed(0, 0, 0, 0, 0), x -> x.end(0) ? 1 : 0, x -> x.text(0, NONE),
            x -> x.text(0, 5), x -> x.move(0, 0), x -> x.turning(0, 0, 0), x -> x.word(0, 5, 0, 0), x -> x.answer(2, 0, 0, 5));
        long[][] before = snapshots(RefusedTest::some, x -> 0);
        boolean all = true;
        for (ToLongFunction<FiveLands> call : taken) {
            long[][] after = snapshots(RefusedTest::some, call);
            boolean seen = false;
            for (int part = 0; part < PARTS; part++) {
                seen = seen || !java.util.Arrays.equals(before[part], after[part]);
            }
            all = all && seen;
        }
        return all;
    }
}
