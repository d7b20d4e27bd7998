/** Promises 19 to 25: TURNINGS, SLY, WORDS, MEND, ROUND, ANSWERS told and JUDGED. */
public final class SchemesTest {
    private static final int NONE = FiveLands.NONE;

    public static void main(String[] args) {
        turnings();
        sly();
        slySets();
        words();
        mendEmpty();
        mendSorts();
        mendFewest();
        mendHonest();
        mendLater();
        rounds();
        roundWrong();
        answers();
        judging();
        Tests.finish();
    }

    /** Promise 19. */
    private static void turnings() {
        FiveLands x = new FiveLands();
        Tests.due("no sum yet", NONE, x.turning(0, 0, 0));
        x.sum(1, 0, 0, 5, 0, 0);
        Tests.due("a sum of year 1 alone", NONE, x.turning(0, 0, 0));
        x.sum(0, 0, 0, 5, 0, 0);
        Tests.due("sum 1", NONE, x.turning(1, 0, 0));
        Tests.due("sum -1", NONE, x.turning(-1, 0, 0));
        Tests.due("land 6", NONE, x.turning(0, 6, 0));
        Tests.due("land -1", NONE, x.turning(0, -1, 0));
        Tests.due("price -1", NONE, x.turning(0, 0, -1));
        Tests.due("price above", NONE, x.turning(0, 0, 1000000));
        for (int k = 0; k < 6; k++) {
            Tests.due("turning " + k, k, x.turning(0, k, k == 0 ? 999999 : 0));
        }
        Tests.due("the seventh", NONE, x.turning(0, 0, 0));
    }

    /** LAND 0 is his and takes 10; 1 takes of all that comes from it but of what goes through: of that a little. */
    private static FiveLands scheme() {
        FiveLands x = new FiveLands();
        Tests.law(x, 0, "mine home=1;step 0 10;");
        Tests.law(x, 1, "take pay 30 when in=1;take let 20 when in=1;take gain 40;");
        Tests.law(x, 2, "take through 5 when pays=1;");
        x.home(0, 0, true);
        x.home(1, 0, true);
        x.sum(0, 0, 0, 100, 1, 1);
        x.sum(0, 1, 0, 100, 1, 1);
        return x;
    }

    /** Promise 20. */
    private static void sly() {
        FiveLands x = scheme();
        Tests.due("no turnings", 0, x.sly(0));
        Tests.due("owes with none", 7000, x.sly(1));
        x.turning(0, 2, 30);
        Tests.due("too dear", 0, x.sly(0));
        x.turning(0, 2, 25);
        Tests.due("as dear as none", 0, x.sly(0));
        Tests.due("owes the same", 7000, x.sly(1));
        x.turning(0, 2, 24);
        Tests.due("cheaper", 4, x.sly(0));
        Tests.due("by one coin", 6900, x.sly(1));
        x.turning(0, 3, 29);
        Tests.due("as cheap: the least set", 4, x.sly(0));
        x.turning(1, 4, 0);
        Tests.due("both sums", 4 + 16, x.sly(0));
        Tests.due("owes", 4900, x.sly(1));
        Tests.due("as things are he owes", 7000, x.owes(0, 0));
        Tests.due("what 2", NONE, x.sly(2));
        Tests.due("what -1", NONE, x.sly(-1));
    }

    /** Promise 20: one for a sum; what is turned keeps its real kind, and comes from the told land. */
    private static void slySets() {
        FiveLands x = scheme();
        x.turning(0, 2, 10);
        x.turning(0, 3, 1);
        x.turning(1, 2, 0);
        x.turning(1, 3, 0);
        Tests.due("one for each sum", 2 + 8, x.sly(0));
        Tests.due("owes", 1000 + 100 + 1000, x.sly(1));
        Tests.pact(x, 0, 1, "look;");
        Tests.due("1 takes by its source: it is not the source any more", 2 + 8, x.sly(0));
        Tests.law(x, 1, "take pay 30;take let 20 when in=1;");
        Tests.due("1 sees pay and takes it all the same", 8, x.sly(0));
        Tests.due("owes", 4000 + 1000, x.sly(1));
        FiveLands z = scheme();
        z.sum(0, 5, 2, 100, 2, 2);
        Tests.due("through from 2", 1000 + 500 + 7000, z.owes(0, 0));
        z.turning(2, 3, 1);
        Tests.due("through stays gain", 1, z.sly(0));
        Tests.pact(z, 0, 1, "look;");
        Tests.due("seen as gain", 7000 + 1000 + 4000 + 100, z.sly(1));
        FiveLands w = scheme();
        Tests.law(w, 0, "mine home=1;step 0 10;relief free;");
        w.turning(0, 0, 0);
        Tests.due("1 takes alone", 5000, w.owes(0, 0));
        Tests.due("the source at home is not freed", 1, w.sly(0));
        Tests.due("owes at home", 3000, w.sly(1));
        w.turning(0, 4, 0);
        Tests.due("freed of nothing at all", 2, w.sly(0));
        Tests.due("owes nothing of it", 2000, w.sly(1));
    }

    /** Promise 21. */
    private static void words() {
        FiveLands x = new FiveLands();
        int[][] bad = {{0, 0, 0, 0}, {6, 0, 0, 0}, {0, 6, 0, 0}, {-1, 0, 0, 0}, {0, -1, 0, 0}, {0, 1, 5, 0}, {0, 1, -1, 0}, {0, 1, 1, 6},
            {0, 1, 2, 6}, {0, 1, 1, -1}, {0, 1, 2, -1}, {0, 1, Integer.MAX_VALUE, 0}, {0, 1, 2, Integer.MIN_VALUE}};
        for (int[] b : bad) {
            Tests.due("word that can't be", NONE, x.word(b[0], b[1], b[2], b[3]));
        }
        Tests.due("kind not asked by look", 0, x.word(0, 1, 0, 99));
        Tests.due("kind not asked by off", 1, x.word(0, 1, 3, -9));
        Tests.due("kind not asked by free", 2, x.word(0, 1, 4, Integer.MIN_VALUE));
        Tests.due("either order", 3, x.word(5, 4, 1, 5));
        Tests.due("top", 4, x.word(0, 5, 2, 0));
        Tests.due("the sixth", 5, x.word(0, 1, 0, 0));
        Tests.due("the seventh", NONE, x.word(0, 1, 0, 0));
    }

    /** Promise 22: the empty set. */
    private static void mendEmpty() {
        FiveLands x = scheme();
        x.word(0, 1, 2, 0);
        Tests.due("no gap", 0, x.mend());
        x.turning(0, 3, 20 + 10);
        Tests.due("a turning that gains nothing", 0, x.mend());
        x.turning(0, 3, 30);
        Tests.due("nor as much as it costs", 0, x.mend());
        x.turning(0, 3, 29);
        Tests.due("a gap, closed by its word", 1, x.mend());
        FiveLands z = scheme();
        z.turning(0, 3, 0);
        Tests.due("a gap without words", NONE, z.mend());
        z.word(0, 2, 0, 0);
        Tests.due("a gap that this word doesn't close", NONE, z.mend());
        z.word(1, 2, 2, 0);
        Tests.due("nor a word of a pact with none that is his", NONE, z.mend());
    }

    /** Promise 22: each sort of WORD does what it says. */
    private static void mendSorts() {
        FiveLands x = scheme();
        x.turning(0, 3, 0);
        x.word(0, 1, 1, 0);
        Tests.due("only pay", 1, x.mend());
        x = scheme();
        x.turning(0, 3, 0);
        x.word(0, 1, 1, 1);
        Tests.due("only let", NONE, x.mend());
        x.word(1, 0, 2, 0);
        Tests.due("top pay 0, told the other way", 2, x.mend());
        x = scheme();
        Tests.law(x, 1, "take pay 30;");
        x.turning(0, 3, 0);
        x.word(0, 3, 0, 0);
        Tests.due("look by another land", NONE, x.mend());
        x.word(0, 1, 0, 0);
        Tests.due("look", 2, x.mend());
        x = scheme();
        Tests.law(x, 0, "mine home=1;step 0 30;");
        x.turning(0, 3, 0);
        x.word(0, 1, 4, 0);
        Tests.due("relief free", 1, x.mend());
        x = scheme();
        Tests.law(x, 0, "mine home=1;step 0 30;");
        x.turning(0, 3, 0);
        x.word(0, 1, 3, 0);
        Tests.due("relief off", 1, x.mend());
        Tests.due("as things are nothing holds", 3000 + 3000 + 3000 + 2000, x.owes(0, 0));
    }

    /** Promise 22: the fewest, then the least. */
    private static void mendFewest() {
        FiveLands x = scheme();
        Tests.law(x, 4, "take pay 7 when amount=100;");
        x.turning(0, 3, 0);
        x.word(0, 4, 2, 0);
        x.word(0, 1, 2, 0);
        Tests.due("both are needed", 3, x.mend());
        x.word(0, 5, 0, 0);
        Tests.due("not more", 3, x.mend());
        Tests.law(x, 4, "");
        Tests.due("one is enough", 2, x.mend());
        x.word(0, 1, 1, 0);
        Tests.due("the least of two", 2, x.mend());
        x.word(0, 1, 4, 0);
        Tests.due("still", 2, x.mend());
        FiveLands z = scheme();
        z.turning(0, 3, 0);
        z.turning(1, 3, 0);
        z.word(0, 1, 2, 0);
        z.word(0, 1, 2, 1);
        Tests.due("both sums", 3, z.mend());
        z.word(0, 1, 4, 0);
        Tests.due("relief free does not free of what 1 takes", 3, z.mend());
        Tests.law(z, 0, "mine home=1;step 0 30;");
        Tests.due("with 30 at home one word is fewer than two", 4, z.mend());
    }

    /** Promise 22: YEAR 1 owes no more. */
    private static void mendHonest() {
        FiveLands x = scheme();
        x.turning(0, 3, 0);
        x.word(0, 1, 2, 0);
        x.sum(1, 0, 0, 100, 1, 1);
        Tests.due("the honest one owes less: so be it", 1, x.mend());
        FiveLands z = scheme();
        Tests.law(z, 1, "take pay 30;take through 10;");
        z.turning(0, 3, 0);
        z.word(0, 1, 0, 0);
        Tests.due("look closes the gap", 1, z.mend());
        z.sum(1, 5, 4, 100, 1, 1);
        Tests.due("the honest one owes less by it", 1, z.mend());
        z.sum(1, 5, 0, 100, 3, 3);
        Tests.due("the honest one owes more by it", NONE, z.mend());
        z.word(0, 1, 2, 0);
        Tests.due("another word closes it and costs nobody more", 2, z.mend());
        FiveLands w = scheme();
        Tests.law(w, 0, "mine home=1;step 0 30;relief free;");
        Tests.law(w, 1, "take pay 20 when in=1;");
        w.turning(0, 3, 0);
        w.word(0, 1, 2, 0);
        w.word(0, 1, 3, 0);
        w.word(0, 3, 3, 0);
        Tests.due("to take nothing closes it", 1, w.mend());
        w.sum(1, 2, 0, 10, 3, 3);
        Tests.due("it still costs nobody more", 1, w.mend());
    }

    /** Promise 22: of two words on relief the later one holds, and in place of what the text tells. */
    private static void mendLater() {
        FiveLands x = scheme();
        Tests.law(x, 0, "mine home=1;step 0 30;");
        x.turning(0, 3, 0);
        Tests.pact(x, 0, 1, "relief off;");
        Tests.due("relief is told: no gap", 0, x.mend());
        Tests.law(x, 1, "take pay 40 when in=1;");
        Tests.due("a gap of ten", NONE, x.mend());
        x.word(0, 1, 4, 0);
        x.word(0, 1, 3, 0);
        Tests.due("no relief closes it", NONE, x.mend());
        Tests.law(x, 1, "");
        Tests.pact(x, 0, 3, "relief free;");
        Tests.due("free with 1 closes the gap by 3, where he is freed", 1, x.mend());
        FiveLands w = scheme();
        Tests.pact(w, 0, 3, "relief free;");
        Tests.law(w, 1, "");
        w.turning(0, 3, 0);
        w.word(0, 3, 4, 0);
        Tests.due("free is told already", NONE, w.mend());
        w.word(0, 3, 3, 0);
        Tests.due("off in its place", 2, w.mend());
        w.word(0, 3, 4, 0);
        Tests.due("off alone, without the later one", 2, w.mend());
        FiveLands z = scheme();
        Tests.law(z, 0, "mine home=1;step 0 30;");
        Tests.law(z, 1, "");
        Tests.pact(z, 0, 3, "relief free;");
        z.turning(0, 3, 0);
        z.word(0, 3, 3, 0);
        z.word(0, 3, 4, 0);
        Tests.due("the first alone", 1, z.mend());
        z.sum(1, 0, 0, 100, 3, 3);
        Tests.due("the honest one is freed no more; of both the later holds, which closes nothing", NONE, z.mend());
    }

    /** Promise 23. */
    private static void rounds() {
        FiveLands x = new FiveLands();
        Tests.due("without laws", 0, x.round(0, 0, 1, 0));
        Tests.due("no way is less than nothing", NONE, x.round(0, 0, 1, 1));
        Tests.due("straight", 0, x.round(0, 0, 1, 2));
        Tests.law(x, 0, "take pay 20 when in=1;take share 30 when pays=1 and amount=100;take gain 200;take let 0-3;");
        Tests.due("in", 20, x.round(0, 0, 1, 0));
        Tests.due("pays and amount", 30, x.round(3, 0, 1, 0));
        Tests.due("cut to 100", 100, x.round(2, 0, 1, 0));
        Tests.due("cut to 0", 0, x.round(1, 0, 1, 0));
        Tests.due("no line", 0, x.round(4, 0, 1, 0));
        Tests.due("all ways are as dear", NONE, x.round(0, 0, 1, 1));
        Tests.pact(x, 0, 3, "top pay 12;only share;");
        Tests.pact(x, 0, 4, "top pay 11;");
        Tests.law(x, 4, "take pay 2;");
        Tests.due("by 3", 3, x.round(0, 0, 1, 1));
        Tests.due("costs", 12, x.round(0, 0, 1, 2));
        Tests.due("straight still", 20, x.round(0, 0, 1, 0));
        Tests.due("share by 3", 0, x.round(3, 0, 1, 2));
        Tests.pact(x, 1, 4, "top pay 1;");
        Tests.due("as cheap by 4: the least land", 3, x.round(0, 0, 1, 1));
        Tests.pact(x, 1, 4, "only pay;");
        Tests.due("cheaper by 4", 4, x.round(0, 0, 1, 1));
        Tests.due("costs by 4", 11, x.round(0, 0, 1, 2));
        Tests.pact(x, 0, 1, "top pay 11;");
        Tests.due("as dear as straight", NONE, x.round(0, 0, 1, 1));
        Tests.due("straight is told", 11, x.round(0, 0, 1, 2));
        Tests.law(x, 0, "take pay 20 when nights=0 and home=0 and bond=0 and birth=0 and most=0;");
        x.night(0, 0, 359, 0);
        x.home(0, 0, true);
        Tests.due("nights and all others are 0", 12, x.round(0, 0, 3, 0));
        Tests.due("also behind questions of the year", 20, x.round(0, 0, 2, 0) + 8 * x.of(0, 0, 2));
        Tests.law(x, 0, "take through 9;take pay 7;take pay 8;");
        Tests.due("the first line", 7, x.round(0, 0, 5, 0));
    }

    private static void roundWrong() {
        FiveLands x = new FiveLands();
        int[][] bad = {{5, 0, 1, 0}, {-1, 0, 1, 0}, {0, 0, 0, 0}, {0, 6, 1, 0}, {0, -1, 1, 0}, {0, 0, 6, 0}, {0, 0, -1, 0}, {0, 0, 1, 3},
            {0, 0, 1, -1}, {Integer.MIN_VALUE, 0, 1, 0}, {0, Integer.MAX_VALUE, Integer.MIN_VALUE, 2}};
        for (int[] b : bad) {
            Tests.due("round that can't be", NONE, x.round(b[0], b[1], b[2], b[3]));
        }
    }

    /** Promise 24. */
    private static void answers() {
        FiveLands x = new FiveLands();
        x.sum(0, 0, 0, 5, 0, 0);
        Tests.due("sort 3", NONE, x.answer(3, 0, 0, 0));
        Tests.due("sort -1", NONE, x.answer(-1, 0, 0, 0));
        Tests.due("his 2", NONE, x.answer(0, 0, 0, 2));
        Tests.due("his -1", NONE, x.answer(0, 0, 0, -1));
        Tests.due("his 2 to the 32", NONE, x.answer(0, 0, 0, 1L << 32));
        Tests.due("his of land 6", NONE, x.answer(0, 6, 0, 0));
        Tests.due("taken of land -1", NONE, x.answer(1, -1, 0, 0));
        Tests.due("taken of sum 1", NONE, x.answer(1, 0, 1, 0));
        Tests.due("taken of sum -1", NONE, x.answer(1, 0, -1, 0));
        Tests.due("sum not asked for his", 0, x.answer(0, 0, 99, 0));
        Tests.due("nothing asked for owes", 1, x.answer(2, 99, -99, Long.MIN_VALUE));
        Tests.due("taken", 2, x.answer(1, 5, 0, Long.MAX_VALUE));
        for (int k = 3; k < 10; k++) {
            Tests.due("answer " + k, k, x.answer(0, k % 6, 0, 1));
        }
        Tests.due("the eleventh", NONE, x.answer(0, 0, 0, 0));
    }

    /** Promise 25. */
    private static void judging() {
        FiveLands x = scheme();
        x.answer(0, 0, 0, 1);
        x.answer(0, 1, 0, 0);
        x.answer(1, 1, 0, 3000);
        x.answer(1, 0, 1, 1000);
        x.answer(2, 0, 0, 7000);
        Tests.due("all are right", NONE, x.judged());
        Tests.law(x, 1, "take pay 30 when in=1;take let 19 when in=1;");
        Tests.due("owes is wrong now", 4, x.judged());
        Tests.law(x, 1, "take pay 29 when in=1;take let 21 when in=1;");
        Tests.due("taken is wrong now", 2, x.judged());
        Tests.law(x, 0, "mine home=1;step 0 9;");
        Tests.law(x, 1, "take pay 30 when in=1;take let 22 when in=1;");
        Tests.due("taken by 0", 3, x.judged());
        x.home(0, 0, false);
        Tests.due("his is wrong now", 0, x.judged());
        x.home(0, 0, true);
        Tests.law(x, 0, "mine home=1;step 0 10;");
        Tests.law(x, 1, "mine birth=1;take pay 30 when in=1;take let 20 when in=1;");
        Tests.due("as things are: right again", NONE, x.judged());
        x.tie(0, 1, 1);
        Tests.due("1 is his too", 1, x.judged());
        x.tie(0, 1, NONE);
        x.tie(1, 1, 1);
        x.home(1, 0, false);
        Tests.due("year 1 is not asked", NONE, x.judged());
        FiveLands z = new FiveLands();
        z.answer(2, 0, 0, 1L << 32);
        Tests.due("compared as longs", 0, z.judged());
    }
}
