/** The boundary cases of Term 4 and of promises 12 to 14: one test for each sentence that names one. */
public final class BoundsTakeTest {
    private static final int NONE = FiveLands.NONE;
    private static final int MIN = Integer.MIN_VALUE;
    private static final int MAX = Integer.MAX_VALUE;
    private static final String[] NO_RELIEF = {"", "", "", "", "", ""};
    private static final String[] ALL_OFF = {"relief off;", "relief off;", "relief off;", "relief off;", "relief off;", "relief off;"};

    public static void main(String[] args) {
        baseOfNoneAndAll();
        taxBases();
        taxLands();
        taxLessFree();
        taxAtTheSteps();
        taxWithoutSteps();
        aheadGoesTowards0();
        aheadIsWholeForOthers();
        aheadOfTheGreatest();
        freedByAnotherSourceAlone();
        freedBelowHis();
        firstLineThatHolds();
        partsCut();
        topsNoneAndAll();
        onlyOfTheKind();
        leastOfAllPacts();
        topsOfHisAlone();
        seenThroughAlone();
        seenByLooking();
        seenNotByGivingWay();
        reliefToldTwice();
        reliefNoByLaw();
        takenAtLeast0();
        takenOfThoseNotHis();
        answersOne();
        answersSeveral();
        answersNone();
        answersOfOnlySolutions();
        answersLeastSet();
        fractionsDownwards();
        fractionsBelowOne();
        owesOfNone();
        owesBeyondInts();
        nobodysAndTwice();
        takesSums();
        takesWhats();
        takesLandNotAsked();
        owesWhats();
        Tests.finish();
    }

    /** "THE BASE is all AMOUNTS together": of no SUM, of one, of twelve. */
    private static void baseOfNoneAndAll() {
        FiveLands x = new FiveLands();
        Tests.due("of none", 0, x.owes(0, 4));
        x.sum(0, 0, 0, 1, 0, 0);
        Tests.due("of one", 1, x.owes(0, 4));
        for (int i = 1; i < 12; i++) {
            x.sum(0, i % 6, 0, 999999, 0, 0);
        }
        Tests.due("of twelve", 11 * 999999 + 1, x.owes(0, 4));
        x.sum(0, 0, 0, 999999, 0, 0);
        Tests.due("not of one that was refused", 11 * 999999 + 1, x.owes(0, 4));
        Tests.due("of the other year", 0, x.owes(1, 4));
    }

    /** "TAX of a LAND on a base 0 .. 99999999 .. NONE if one can't be." */
    private static void taxBases() {
        FiveLands x = new FiveLands();
        Tests.law(x, 0, "step 0 100;");
        Tests.due("base 0", 0, x.tax(0, 0));
        Tests.due("base 1", 100, x.tax(0, 1));
        Tests.due("base 99999998", 9999999800L, x.tax(0, 99999998));
        Tests.due("base 99999999", 9999999900L, x.tax(0, 99999999));
        for (int base : new int[] {-1, 100000000, 100000001, MIN, MAX, -99999999}) {
            Tests.due("base " + base, NONE, x.tax(0, base));
        }
    }

    /** "NONE if one can't be": the LAND. */
    private static void taxLands() {
        FiveLands x = new FiveLands();
        Tests.law(x, 0, "step 0 1;");
        Tests.law(x, 5, "step 0 2;");
        Tests.due("the first", 10, x.tax(0, 10));
        Tests.due("the last", 20, x.tax(5, 10));
        for (int l : new int[] {-1, 6, 32, 64, MIN, MAX}) {
            Tests.due("land " + l, NONE, x.tax(l, 10));
        }
    }

    /** "(of the base less free, 0 at least)". */
    private static void taxLessFree() {
        FiveLands x = new FiveLands();
        Tests.law(x, 0, "free 1000;step 0 50;");
        Tests.due("below free", 0, x.tax(0, 999));
        Tests.due("free", 0, x.tax(0, 1000));
        Tests.due("above free", 50, x.tax(0, 1001));
        Tests.due("nothing", 0, x.tax(0, 0));
        Tests.law(x, 0, "free 999999;step 0 50;");
        Tests.due("the greatest free", 0, x.tax(0, 999999));
        Tests.due("and one", 50, x.tax(0, 1000000));
        Tests.law(x, 0, "free 0;step 0 50;");
        Tests.due("free 0", 50, x.tax(0, 1));
    }

    /** "from each step's N .. on, to the next one's, its P". */
    private static void taxAtTheSteps() {
        FiveLands x = new FiveLands();
        Tests.law(x, 0, "step 10 10;step 11 100;step 20 0;step 30 1;");
        long[] due = {0, 0, 10, 110, 910, 910, 910, 911};
        int[] bases = {0, 10, 11, 12, 20, 21, 30, 31};
        for (int i = 0; i < due.length; i++) {
            Tests.due("base " + bases[i], due[i], x.tax(0, bases[i]));
        }
        Tests.law(x, 0, "step 10 7;step 20 3;");
        Tests.due("where the last one starts", 70, x.tax(0, 20));
        Tests.due("just behind it", 73, x.tax(0, 21));
        Tests.due("far behind it", 70 + 3 * 80, x.tax(0, 100));
        Tests.law(x, 0, "step 999999 100;");
        Tests.due("at the greatest step", 0, x.tax(0, 999999));
        Tests.due("and one", 100, x.tax(0, 1000000));
        Tests.law(x, 0, "step 0 0;");
        Tests.due("a step of 0", 0, x.tax(0, 99999999));
    }

    /** "(0 without steps)". */
    private static void taxWithoutSteps() {
        FiveLands x = new FiveLands();
        Tests.law(x, 0, "mine 1=1;take pay 100;free 5;relief off;");
        Tests.due("none", 0, x.tax(0, 99999999));
        x.sum(0, 0, 0, 999999, 0, 0);
        Tests.due("his, without steps", 0, x.takes(0, 0, 0, 1));
        Tests.due("nobody's", 1, x.owes(0, 1));
    }

    /** "TAX on THE BASE times AMOUNT by THE BASE": towards 0. */
    private static void aheadGoesTowards0() {
        FiveLands x = new FiveLands();
        Tests.law(x, 0, "mine 1=1;free 2;step 0 1;");
        x.sum(0, 0, 0, 1, 0, 0);
        x.sum(0, 0, 0, 2, 0, 0);
        Tests.due("tax of 1", 1, x.tax(0, 3));
        Tests.due("a third", 0, x.takes(0, 0, 0, 1));
        Tests.due("two thirds", 0, x.takes(0, 1, 0, 1));
        Tests.law(x, 0, "mine 1=1;step 0 1;");
        Tests.due("three thirds", 1, x.takes(0, 0, 0, 1));
        Tests.due("six thirds", 2, x.takes(0, 1, 0, 1));
        Tests.law(x, 0, "mine 1=1;step 1 1;");
        Tests.due("two thirds", 0, x.takes(0, 0, 0, 1));
        Tests.due("four thirds", 1, x.takes(0, 1, 0, 1));
        FiveLands z = new FiveLands();
        Tests.law(z, 0, "mine 1=1;step 0 1;");
        z.sum(0, 0, 0, 1, 0, 0);
        Tests.due("the least base", 1, z.takes(0, 0, 0, 1));
    }

    /** "Quotients go towards 0": so does AHEAD, before others count it as taken. */
    private static void aheadIsWholeForOthers() {
        FiveLands x = new FiveLands();
        Tests.law(x, 0, "mine 1=1;step 0 10;step 2 11;relief off;");
        Tests.law(x, 1, "mine 1=1;step 0 5;step 1 6;");
        x.sum(0, 0, 0, 1, 5, 5);
        x.sum(0, 0, 0, 2, 5, 5);
        Tests.due("tax of 0", 31, x.tax(0, 3));
        Tests.due("tax of 1", 17, x.tax(1, 3));
        Tests.due("31 thirds", 10, x.takes(0, 0, 0, 1));
        Tests.due("17 thirds", 5, x.takes(0, 0, 1, 1));
        Tests.due("10 less 5, not 14 thirds", 5, x.takes(0, 0, 0, 2));
        Tests.due("62 thirds", 20, x.takes(0, 1, 0, 1));
        Tests.due("34 thirds", 11, x.takes(0, 1, 1, 1));
        Tests.due("20 less 11", 9, x.takes(0, 1, 0, 2));
        Tests.due("both of both", 30, x.owes(0, 0));
    }

    /** The greatest TAX times the greatest AMOUNT is above all ints. */
    private static void aheadOfTheGreatest() {
        FiveLands x = new FiveLands();
        Tests.law(x, 0, "mine 1=1;step 0 100;");
        Tests.law(x, 1, "take pay 100;");
        for (int i = 0; i < 12; i++) {
            x.sum(0, 0, 0, 999999, 2, 2);
        }
        Tests.due("his", 99999900, x.takes(0, 11, 0, 1));
        Tests.due("another one's", 99999900, x.takes(0, 11, 1, 1));
        Tests.due("taken", 99999900, x.takes(0, 11, 0, 2));
    }

    /** "0, if the SUM is FREED: the SOURCE is another LAND, and RELIEF with it is free". */
    private static void freedByAnotherSourceAlone() {
        FiveLands x = new FiveLands();
        Tests.law(x, 0, "mine 1=1;step 0 10;relief free;");
        for (int l = 0; l < 6; l++) {
            x.sum(0, 0, 0, 10, l, 5 - l);
            Tests.due("freed of " + l, l == 0 ? 0 : 1, x.takes(0, l, 0, 4));
        }
        Tests.due("not freed: all of it", 100, x.takes(0, 0, 0, 1));
        for (int l = 1; l < 6; l++) {
            Tests.due("freed: none of it", 0, x.takes(0, l, 0, 1));
        }
        Tests.pact(x, 0, 5, "relief off;");
        Tests.due("5 is told", 0, x.takes(0, 5, 0, 4));
        Tests.due("5 alone", 1, x.takes(0, 4, 0, 4));
    }

    /** "RELIEF of a LAND that is HIS": one that is not has none, and FREES nothing. */
    private static void freedBelowHis() {
        FiveLands x = new FiveLands();
        Tests.law(x, 0, "mine home=1;step 0 10;relief free;take pay 7;");
        Tests.law(x, 1, "take pay 3;");
        x.sum(0, 0, 0, 10, 1, 1);
        Tests.due("not his", 0, x.takes(0, 0, 0, 4));
        Tests.due("takes by its line", 70, x.takes(0, 0, 0, 2));
        x.home(0, 0, true);
        Tests.due("his", 1, x.takes(0, 0, 0, 4));
        Tests.due("takes nothing", 0, x.takes(0, 0, 0, 2));
        Tests.law(x, 0, "mine home=1;take pay 7;relief off;");
        x.home(0, 0, false);
        Tests.due("off, but not his", 70, x.takes(0, 0, 0, 2));
    }

    /** "its first line take of the KIND .. whose B is so (or that has none) .. (0 without one)". */
    private static void firstLineThatHolds() {
        FiveLands x = new FiveLands();
        x.sum(0, 0, 0, 100, 1, 2);
        Tests.due("no law", 0, x.takes(0, 0, 1, 1));
        Tests.law(x, 1, "take let 9;take through 8;");
        Tests.due("none of the kind", 0, x.takes(0, 0, 1, 1));
        Tests.law(x, 1, "take pay 9 when 1=2;take pay 8 when in=0;");
        Tests.due("none that holds", 0, x.takes(0, 0, 1, 1));
        Tests.law(x, 1, "take pay 0;take pay 9;");
        Tests.due("the first takes nothing, and is the one", 0, x.takes(0, 0, 1, 1));
        Tests.law(x, 1, "take pay 9 when in=1 and amount=100;take pay 8;");
        Tests.due("the first that holds", 900, x.takes(0, 0, 1, 1));
        Tests.law(x, 1, "take pay 9 when amount>100;take pay 8 when amount<101;");
        Tests.due("the second", 800, x.takes(0, 0, 1, 1));
    }

    /** "cut to 0 .. 100". */
    private static void partsCut() {
        String[] es = {"0", "1", "99", "100", "101", "999999", "0-1", "0-999999", "65536*32768", "65536*32768-1"};
        int[] parts = {0, 1, 99, 100, 100, 100, 0, 0, 0, 100};
        for (int i = 0; i < es.length; i++) {
            FiveLands x = new FiveLands();
            Tests.law(x, 5, "take pension " + es[i] + ";");
            x.sum(1, 4, 0, 3, 0, 0);
            Tests.due("of " + es[i], 3 * parts[i], x.takes(1, 0, 5, 1));
            Tests.due("is taken", 3 * parts[i], x.takes(1, 0, 5, 2));
            Tests.due("in a round", parts[i], x.round(4, 5, 0, 0));
        }
    }

    /** "at most top": 0, as much, less, 100. */
    private static void topsNoneAndAll() {
        FiveLands x = new FiveLands();
        Tests.law(x, 0, "mine 1=1;");
        Tests.law(x, 1, "take pay 50;");
        x.sum(0, 0, 0, 1, 1, 1);
        int[] tops = {0, 1, 49, 50, 51, 100};
        for (int t : tops) {
            Tests.pact(x, 0, 1, "top pay " + t + ";");
            Tests.due("top " + t, Math.min(50, t), x.takes(0, 0, 1, 1));
        }
        Tests.law(x, 1, "take pay 100;");
        Tests.due("top 100 of 100", 100, x.takes(0, 0, 1, 1));
        Tests.pact(x, 0, 1, "top let 0;top through 0;");
        Tests.due("tops of other kinds", 100, x.takes(0, 0, 1, 1));
    }

    /** "0 by only, of that KIND". */
    private static void onlyOfTheKind() {
        String[] kinds = {"pay", "let", "gain", "share", "pension", "through"};
        for (int k = 0; k < 6; k++) {
            FiveLands x = new FiveLands();
            Tests.law(x, 0, "mine 1=1;");
            Tests.law(x, 1, "take pay 5;take let 5;take gain 5;take share 5;take pension 5;take through 5;");
            Tests.pact(x, 0, 1, "top " + kinds[k] + " 100;only " + kinds[k] + ";");
            for (int i = 0; i < 6; i++) {
                x.sum(0, i, 0, 1, 1, 1);
                Tests.due("only " + k + " of " + i, i == k ? 0 : 5, x.takes(0, i, 1, 1));
            }
        }
    }

    /** "in its PACTS with each LAND that is HIS": the least of five. */
    private static void leastOfAllPacts() {
        FiveLands x = new FiveLands();
        Tests.law(x, 2, "take pay 90;");
        x.sum(0, 0, 0, 1, 2, 2);
        int[] his = {0, 1, 3, 4, 5};
        for (int l : his) {
            Tests.law(x, l, "mine home=1;");
            Tests.pact(x, Math.min(l, 2), Math.max(l, 2), "top pay " + (80 - 10 * l) + ";");
        }
        Tests.due("his none", 90, x.takes(0, 0, 2, 1));
        for (int l : his) {
            x.home(0, l, true);
            Tests.due("down to the least", 80 - 10 * l, x.takes(0, 0, 2, 1));
        }
        for (int l : his) {
            x.home(0, l, false);
            Tests.due("the least is left to the last", l == 5 ? 90 : 30, x.takes(0, 0, 2, 1));
        }
    }

    /** "Any other LAND": one that is HIS itself is bound by no top. */
    private static void topsOfHisAlone() {
        FiveLands x = new FiveLands();
        Tests.law(x, 0, "mine home=1;step 0 40;take pay 60;");
        Tests.law(x, 1, "mine home=1;step 0 50;take pay 70;");
        Tests.pact(x, 0, 1, "only pay;");
        x.sum(0, 0, 0, 1, 1, 1);
        Tests.due("neither is his", 60, x.takes(0, 0, 0, 1));
        Tests.due("no top binds", 70, x.takes(0, 0, 1, 1));
        x.home(0, 0, true);
        Tests.due("0 is his", 40, x.takes(0, 0, 0, 1));
        Tests.due("1 takes nothing", 0, x.takes(0, 0, 1, 1));
        x.home(0, 1, true);
        Tests.due("both are", 40, x.takes(0, 0, 0, 1));
        Tests.due("by steps", 50, x.takes(0, 0, 1, 1));
    }

    /** "SEEN is a SUM of KIND through as its REAL one": of no other KIND. */
    private static void seenThroughAlone() {
        FiveLands x = new FiveLands();
        Tests.law(x, 0, "mine 1=1;");
        Tests.pact(x, 0, 1, "look;");
        for (int kind = 0; kind < 5; kind++) {
            x.sum(0, kind, 4 - kind, 1, 1, 1);
            Tests.due("kind " + kind, kind, x.takes(0, kind, 1, 0));
        }
        for (int real = 0; real < 5; real++) {
            x.sum(0, 5, real, 1, 1, 1);
            Tests.due("through of " + real, real, x.takes(0, 5 + real, 1, 0));
            Tests.due("by one that doesn't look", 5, x.takes(0, 5 + real, 2, 0));
        }
    }

    /** "by a LAND that has a PACT that LOOKS with one that is HIS (one that is HIS: with any LAND), else as it is". */
    private static void seenByLooking() {
        for (int a = 0; a < 6; a++) {
            for (int b = a + 1; b < 6; b++) {
                FiveLands x = new FiveLands();
                x.sum(0, 5, 3, 1, 0, 0);
                Tests.pact(x, a, b, "look;");
                Tests.law(x, a, "mine home=1;");
                Tests.law(x, b, "mine home=1;");
                seen(x, 0);
                x.home(0, a, true);
                seen(x, 1 << a | 1 << b);
                x.home(0, b, true);
                seen(x, 1 << a | 1 << b);
                x.home(0, a, false);
                seen(x, 1 << a | 1 << b);
                Tests.pact(x, a, b, "relief off;");
                seen(x, 0);
            }
        }
    }

    /** "with one that is HIS": SAYING so is not enough, if it GIVES WAY. */
    private static void seenNotByGivingWay() {
        FiveLands x = new FiveLands();
        Tests.law(x, 0, "mine 1=1;");
        Tests.law(x, 1, "mine 1=1;");
        x.sum(0, 5, 3, 1, 0, 0);
        Tests.pact(x, 1, 2, "look;");
        seen(x, 1 << 1 | 1 << 2);
        Tests.pact(x, 0, 1, "test home;");
        seen(x, 1 << 1 | 1 << 2);
        x.home(0, 0, true);
        Tests.due("1 gives way", 0, x.of(0, 1, 7));
        seen(x, 0);
        x.home(0, 1, true);
        seen(x, 1 << 1 | 1 << 2);
        x.home(0, 0, false);
        Tests.pact(x, 0, 1, "test home;look;");
        seen(x, 1 | 1 << 1 | 1 << 2);
    }

    private static void seen(FiveLands x, int looking) {
        for (int l = 0; l < 6; l++) {
            Tests.due("seen by " + l, (looking >> l & 1) == 1 ? 3 : 5, x.takes(0, 0, l, 0));
        }
    }

    /** "RELIEF .. by their PACT, if that tells it, else by its LAW". */
    private static void reliefToldTwice() {
        String[] laws = {"", "relief no;", "relief off;", "relief free;"};
        String[] pacts = {"", "relief off;", "relief free;"};
        for (int law = 0; law < 4; law++) {
            for (int pact = 0; pact < 3; pact++) {
                FiveLands x = new FiveLands();
                Tests.law(x, 0, "mine 1=1;step 0 30;" + laws[law]);
                Tests.law(x, 1, "take pay 10;");
                Tests.pact(x, 0, 1, pacts[pact]);
                x.sum(0, 0, 0, 1, 1, 1);
                int told = pact > 0 ? pact + 1 : law;
                Tests.due(laws[law] + pacts[pact], told == 2 ? 20 : told == 3 ? 0 : 30, x.takes(0, 0, 0, 2));
                Tests.due("freed by " + laws[law] + pacts[pact], told == 3 ? 1 : 0, x.takes(0, 0, 0, 4));
            }
        }
    }

    /** "(no without)": a LAW that tells it anew, or no more. */
    private static void reliefNoByLaw() {
        FiveLands x = new FiveLands();
        Tests.law(x, 1, "take pay 10;");
        x.sum(0, 0, 0, 1, 1, 1);
        for (int i = 0; i < 3; i++) {
            Tests.law(x, 0, "mine 1=1;step 0 30;relief off;");
            Tests.due("off", 20, x.takes(0, 0, 0, 2));
            Tests.law(x, 0, "mine 1=1;step 0 30;");
            Tests.due("without", 30, x.takes(0, 0, 0, 2));
            Tests.law(x, 0, "mine 1=1;step 0 30;relief free;");
            Tests.due("free", 0, x.takes(0, 0, 0, 2));
        }
        for (int i = 0; i < 3; i++) {
            Tests.law(x, 0, "mine 1=1;step 0 30;relief no;");
            Tests.due("no", 30, x.takes(0, 0, 0, 2));
            Tests.law(x, 0, "mine 1=1;step 0 30;relief off;");
            Tests.due("off", 20, x.takes(0, 0, 0, 2));
            Tests.law(x, 0, "mine 1=1;step 0 30;");
            Tests.due("without", 30, x.takes(0, 0, 0, 2));
        }
    }

    /** "less all that those others take with which its RELIEF is off, 0 at least". */
    private static void takenAtLeast0() {
        FiveLands x = new FiveLands();
        Tests.law(x, 0, "mine 1=1;step 0 30;relief off;");
        x.sum(0, 0, 0, 1, 1, 1);
        int[] parts = {0, 1, 29, 30, 31, 100};
        for (int p : parts) {
            Tests.law(x, 1, "take pay " + p + ";");
            Tests.due("less " + p, Math.max(0, 30 - p), x.takes(0, 0, 0, 2));
            Tests.due("one answer", 1, x.takes(0, 0, 0, 3));
            Tests.due("that takes " + p, p, x.takes(0, 0, 1, 2));
        }
        Tests.law(x, 1, "take pay 10;");
        for (int l = 2; l < 6; l++) {
            Tests.law(x, l, "take pay 10;");
            Tests.due("less all of them", Math.max(0, 30 - 10 * l), x.takes(0, 0, 0, 2));
        }
    }

    /** "each LAND that is not HIS what it takes AHEAD": RELIEF told there takes nothing off it. */
    private static void takenOfThoseNotHis() {
        FiveLands x = new FiveLands();
        Tests.law(x, 0, "mine 1=1;step 0 30;");
        Tests.law(x, 1, "take pay 40;relief off;");
        Tests.pact(x, 0, 1, "relief off;");
        Tests.law(x, 2, "take pay 50;relief off;");
        Tests.pact(x, 1, 2, "relief off;");
        x.sum(0, 0, 0, 1, 0, 0);
        Tests.due("1 as ahead", 40, x.takes(0, 0, 1, 2));
        Tests.due("2 as ahead", 50, x.takes(0, 0, 2, 2));
        Tests.due("0 less 1", 0, x.takes(0, 0, 0, 2));
        Tests.due("one answer", 1, x.takes(0, 0, 0, 3));
        for (int l = 0; l < 6; l++) {
            lessThatOf(l);
        }
    }

    /** What a LAND takes off that of a LAND that is not HIS: of the first as of the last. */
    private static void lessThatOf(int land) {
        FiveLands x = new FiveLands();
        int his = 5 - land;
        Tests.law(x, his, "mine 1=1;step 0 30;relief off;");
        Tests.law(x, land, "take pay 10;");
        x.sum(0, 0, 0, 1, his, his);
        Tests.due("ahead", 30, x.takes(0, 0, his, 1));
        Tests.due("less that of " + land, 20, x.takes(0, 0, his, 2));
        Tests.due("which takes all the same", 10, x.takes(0, 0, land, 2));
    }

    private static void taken(String what, FiveLands x, long answers, long... due) {
        Tests.due(what + ": answers", answers, x.takes(0, 0, 0, 3));
        for (int l = 0; l < due.length; l++) {
            Tests.due(what + ": taken by " + l, due[l], x.takes(0, 0, l, 2));
        }
    }

    /** "If there is one ANSWER, it is that": where HIS are none, where none takes more than 0, where one just doesn't. */
    private static void answersOne() {
        FiveLands x = new FiveLands();
        x.sum(0, 0, 0, 1, 0, 0);
        taken("his none", x, 1, 0, 0, 0, 0, 0, 0);
        taken("none takes", Tests.ring(1, new int[6], ALL_OFF), 1, 0, 0, 0, 0, 0, 0);
        taken("one takes", Tests.ring(1, new int[] {0, 0, 7, 0, 0, 0}, ALL_OFF), 1, 0, 0, 7, 0, 0, 0);
        taken("all take", Tests.ring(1, new int[] {1, 2, 3, 4, 5, 6}, NO_RELIEF), 1, 1, 2, 3, 4, 5, 6);
        taken("the greater of two", Tests.ring(1, new int[] {4, 5}, ALL_OFF), 1, 0, 5);
        taken("each its own share", Tests.ring(1, new int[] {1, 2, 4, 8, 16, 32}, ALL_OFF), 1, 0, 0, 0, 0, 0, 32);
        FiveLands z = Tests.ring(1, new int[] {20}, ALL_OFF);
        Tests.law(z, 1, "take share 20;");
        taken("just as much is taken off", z, 1, 0, 20);
    }

    /** "of several that with the least such set as a number": as many as there are LANDS, and more. */
    private static void answersSeveral() {
        taken("two alike", Tests.ring(1, new int[] {5, 5}, ALL_OFF), 2, 5, 0);
        taken("six alike", Tests.ring(1, new int[] {5, 5, 5, 5, 5, 5}, ALL_OFF), 6, 5, 0, 0, 0, 0, 0);
        taken("the last two alike", Tests.ring(1, new int[] {0, 0, 0, 0, 9, 9}, ALL_OFF), 2, 0, 0, 0, 0, 9, 0);
        FiveLands pairs = Tests.ring(1, new int[] {5, 5, 5, 5, 5, 5}, NO_RELIEF);
        Tests.pacts(pairs, "relief off;", new int[] {0, 1}, new int[] {2, 3}, new int[] {4, 5});
        taken("three pairs", pairs, 8, 5, 0, 5, 0, 5, 0);
        FiveLands path = Tests.ring(1, new int[] {2, 3, 2}, NO_RELIEF);
        Tests.pacts(path, "relief off;", new int[] {0, 1}, new int[] {1, 2});
        taken("a path: one, two and all three", path, 3, 0, 3, 0);
        FiveLands five = Tests.ring(1, new int[] {11, 5, 8, 17, 14, 14}, new String[] {"", "", "", "relief off;", "relief off;", "relief off;"});
        Tests.pacts(five, "relief off;", new int[] {0, 2}, new int[] {0, 3}, new int[] {1, 2});
        Tests.pacts(five, "relief free;", new int[] {1, 3}, new int[] {2, 4}, new int[] {2, 5});
        taken("five that take of one another", five, 2, 3, 1, 4, 4, 6, 0);
    }

    /**
     * "if there is none, all take what they take AHEAD": six that are HIS, where all hold in one way alone, and the equations of
     * those that take more than 0 in it have other solutions too.
     */
    private static void answersNone() {
        FiveLands x = Tests.ring(1, new int[] {10, 1, 8, 8, 5, 6}, new String[] {"relief off;", "", "relief off;", "relief off;", "", ""});
        Tests.pacts(x, "relief off;", new int[] {0, 1}, new int[] {0, 5}, new int[] {4, 5});
        Tests.due("one answer before", 1, x.takes(0, 0, 0, 3));
        Tests.pacts(x, "relief free;", new int[] {2, 3}, new int[] {3, 4});
        taken("no answer", x, 0, 10, 1, 8, 8, 5, 6);
        for (int l = 0; l < 6; l++) {
            Tests.due("as ahead", x.takes(0, 0, l, 1), x.takes(0, 0, l, 2));
        }
        Tests.due("owes all of it", 38, x.owes(0, 0));
        Tests.due("more than one takes", 1, x.owes(0, 2));
        Tests.due("it is not nobody's", 0, x.owes(0, 1));
        Tests.law(x, 2, "mine home=1;step 0 9;relief off;");
        Tests.yes("one hundredth more: there is one again", x.takes(0, 0, 0, 3) > 0);
        Tests.yes("and less is taken", x.owes(0, 0) < 38);
        for (int turn = 0; turn < 6; turn++) {
            noAnswer(new int[] {10, 1, 8, 8, 5, 6}, 0b001101, new int[][] {{0, 1}, {0, 5}, {4, 5}}, new int[][] {{2, 3}, {3, 4}}, 0, turn);
            noAnswer(new int[] {13, 6, 3, 6, 5, 10}, 0b001001, new int[][] {{0, 5}, {1, 4}, {1, 5}, {2, 4}},
                new int[][] {{0, 4}, {1, 3}, {2, 3}, {3, 4}}, 5, turn);
        }
    }

    /** Six LANDS that leave no ANSWER, each a few places on. */
    private static void noAnswer(int[] parts, int lawsOff, int[][] off, int[][] free, int source, int turn) {
        int[] turned = new int[6];
        String[] reliefs = new String[6];
        for (int l = 0; l < 6; l++) {
            turned[(l + turn) % 6] = parts[l];
            reliefs[(l + turn) % 6] = (lawsOff >> l & 1) == 1 ? "relief off;" : "";
        }
        FiveLands x = Tests.ring(1, turned, reliefs);
        for (int[][] pairs : new int[][][] {off, free}) {
            for (int[] p : pairs) {
                int a = (p[0] + turn) % 6;
                int b = (p[1] + turn) % 6;
                Tests.pacts(x, pairs == off ? "relief off;" : "relief free;", new int[] {Math.min(a, b), Math.max(a, b)});
            }
        }
        int i = x.sum(0, 3, 0, 1, (source + turn) % 6, 0);
        Tests.due("no answer", 0, x.takes(0, i, 0, 3));
        for (int l = 0; l < 6; l++) {
            Tests.due("ahead", turned[l], x.takes(0, i, l, 1));
            Tests.due("all of it is taken", turned[l], x.takes(0, i, l, 2));
        }
    }

    /** "in which, for the set of those .. that .. take more than 0, these are the only ones that its equations have". */
    private static void answersOfOnlySolutions() {
        taken("both together would have many", Tests.ring(1, new int[] {8, 8}, ALL_OFF), 2, 8, 0);
        FiveLands x = Tests.ring(1, new int[] {8, 8, 3}, ALL_OFF);
        taken("with one that takes nothing", x, 2, 8, 0, 0);
        FiveLands z = Tests.ring(1, new int[] {8, 8, 8}, NO_RELIEF);
        Tests.pacts(z, "relief off;", new int[] {0, 1});
        taken("with one that takes all", z, 2, 8, 0, 8);
    }

    /** "(LAND l counts 2 to the l)": a set of the first two is less than the third one alone. */
    private static void answersLeastSet() {
        FiveLands x = Tests.ring(1, new int[] {5, 5, 5}, NO_RELIEF);
        Tests.pacts(x, "relief off;", new int[] {0, 2}, new int[] {1, 2});
        taken("0 and 1 together are 3, 2 is 4", x, 2, 5, 5, 0);
        FiveLands z = Tests.ring(1, new int[] {5, 5, 5}, NO_RELIEF);
        Tests.pacts(z, "relief off;", new int[] {0, 1}, new int[] {1, 2});
        taken("1 is 2, 0 and 2 together are 5", z, 2, 0, 5, 0);
        FiveLands last = Tests.ring(1, new int[] {5, 5, 5, 5, 5, 5}, NO_RELIEF);
        for (int l = 0; l < 5; l++) {
            Tests.pacts(last, "relief off;", new int[] {l, 5});
        }
        taken("all but the last are 31, the last is 32", last, 2, 5, 5, 5, 5, 5, 0);
    }

    /** LANDS 0, 1, 2 and 4 take thirds; 3 and 5 nothing. */
    private static FiveLands thirds(int amount, int[] parts) {
        FiveLands x = Tests.ring(amount, parts, new String[] {"", "", "", "", "relief off;", ""});
        Tests.pacts(x, "relief off;", new int[] {0, 2}, new int[] {0, 3}, new int[] {0, 4}, new int[] {1, 2}, new int[] {1, 3},
            new int[] {1, 4}, new int[] {2, 5}, new int[] {4, 5});
        Tests.pacts(x, "relief free;", new int[] {2, 4}, new int[] {3, 4});
        return x;
    }

    /** "Told are HUNDREDTHS, downwards." */
    private static void fractionsDownwards() {
        FiveLands x = thirds(1, new int[] {20, 20, 20, 10, 20, 10});
        long[] due = {6, 6, 6, 0, 6, 0};
        for (int l = 0; l < 6; l++) {
            Tests.due("20 thirds by " + l, due[l], x.takes(0, 0, l, 2));
        }
        Tests.due("owes as told", 24, x.owes(0, 0));
        FiveLands z = thirds(1, new int[] {30, 30, 30, 15, 30, 15});
        Tests.due("30 thirds", 10, z.takes(0, 0, 0, 2));
        Tests.due("owes them", 40, z.owes(0, 0));
        FiveLands w = thirds(999999, new int[] {100, 100, 100, 50, 100, 50});
        Tests.due("of the greatest", 33333300, w.takes(0, 0, 4, 2));
    }

    /** "NOBODY's are SUMS of which no LAND takes anything (HUNDREDTHS as told)": two thirds of one are nothing; so with TWICE. */
    private static void fractionsBelowOne() {
        FiveLands x = thirds(1, new int[] {2, 2, 2, 1, 2, 1});
        for (int l = 0; l < 6; l++) {
            Tests.due("less than one is told as none by " + l, 0, x.takes(0, 0, l, 2));
        }
        Tests.due("owes none", 0, x.owes(0, 0));
        Tests.due("it is nobody's", 1, x.owes(0, 1));
        Tests.due("not twice", 0, x.owes(0, 2));
        FiveLands z = thirds(2, new int[] {2, 2, 2, 1, 2, 1});
        Tests.due("four thirds are one", 1, z.takes(0, 0, 0, 2));
        Tests.due("owes four of it", 4, z.owes(0, 0));
        Tests.due("it is not nobody's", 0, z.owes(0, 1));
        Tests.due("it is taken twice", 1, z.owes(0, 2));
        FiveLands one = Tests.ring(1, new int[] {3, 3, 3, 1, 2, 1}, new String[] {"", "", "", "relief off;", "relief off;", ""});
        Tests.pacts(one, "relief off;", new int[] {0, 1}, new int[] {0, 3}, new int[] {0, 4}, new int[] {1, 2}, new int[] {1, 5},
            new int[] {2, 4}, new int[] {3, 5});
        Tests.pacts(one, "relief free;", new int[] {1, 3}, new int[] {1, 4}, new int[] {3, 4});
        taken("four take, one of them a hundredth", one, one.takes(0, 0, 0, 3), 0, 1, 0, 0, 0, 0);
        Tests.due("as told one alone takes", 0, one.owes(0, 2));
        Tests.due("it is not nobody's either", 0, one.owes(0, 1));
        Tests.due("owes as told", 1, one.owes(0, 0));
    }

    /** "OWES: all TAKEN .. of all SUMS by all LANDS": none of none. */
    private static void owesOfNone() {
        FiveLands x = new FiveLands();
        Tests.law(x, 0, "mine 1=1;step 0 100;");
        Tests.due("no sums", 0, x.owes(0, 0));
        Tests.due("nobody's", 0, x.owes(0, 1));
        Tests.due("twice", 0, x.owes(0, 2));
        x.sum(0, 0, 0, 1, 0, 0);
        Tests.due("one", 100, x.owes(0, 0));
    }

    /** OWES of twelve of the greatest SUMS by six LANDS is above all ints. */
    private static void owesBeyondInts() {
        FiveLands x = new FiveLands();
        for (int l = 0; l < 6; l++) {
            Tests.law(x, l, "mine 1=1;step 0 100;");
        }
        for (int i = 0; i < 12; i++) {
            x.sum(1, 0, 0, 999999, 0, 0);
        }
        Tests.due("owes", 72L * 99999900, x.owes(1, 0));
        Tests.due("all are taken twice", 4095, x.owes(1, 2));
        x.move(0, 0);
        Tests.due("no move is better", 72L * 99999900, x.best(1, 1));
        Tests.due("owes by a move", 72L * 99999900, x.best(1, 10));
    }

    /** "of which no LAND takes anything"; "TWICE those of which two LANDS or more do": none, one, two, three, in the first and the last SUM. */
    private static void nobodysAndTwice() {
        FiveLands x = new FiveLands();
        for (int l = 0; l < 6; l++) {
            Tests.law(x, l, "take pay 1 when amount>" + (l + 1) + ";");
        }
        for (int i = 0; i < 12; i++) {
            x.sum(0, 0, 0, 1 + i % 8, 0, 0);
        }
        Tests.due("nobody's", 0x101, x.owes(0, 1));
        Tests.due("twice", 0xfff & ~0x303, x.owes(0, 2));
        Tests.law(x, 0, "");
        Tests.due("nobody's, one land less", 0x303, x.owes(0, 1));
        Tests.due("twice, one land less", 0xfff & ~0x707, x.owes(0, 2));
    }

    /** "Of a SUM": 0 .. as many as there are. */
    private static void takesSums() {
        FiveLands x = new FiveLands();
        Tests.due("no sum 0", NONE, x.takes(0, 0, 0, 1));
        Tests.due("nor its answers", NONE, x.takes(0, 0, 0, 3));
        for (int i = 0; i < 12; i++) {
            x.sum(0, 0, 0, 1, 0, 0);
            Tests.due("the last one", 0, x.takes(0, i, 0, 1));
            Tests.due("the next one", NONE, x.takes(0, i + 1, 0, 1));
            Tests.due("of year 1", NONE, x.takes(1, i, 0, 1));
        }
        for (int i : new int[] {-1, 12, 13, 32, MIN, MAX}) {
            for (int what = 0; what < 5; what++) {
                Tests.due("sum " + i, NONE, x.takes(0, i, 0, what));
            }
        }
    }

    /** "what 0 .. 4 .. NONE if .. another what". */
    private static void takesWhats() {
        FiveLands x = new FiveLands();
        Tests.law(x, 0, "mine 1=1;step 0 7;relief free;");
        x.sum(0, 5, 2, 10, 0, 0);
        x.sum(0, 5, 2, 10, 1, 1);
        long[] own = {5, 70, 70, 1, 0};
        long[] freed = {5, 0, 0, 1, 1};
        for (int what = 0; what < 5; what++) {
            Tests.due("what " + what, own[what], x.takes(0, 0, 0, what));
            Tests.due("what " + what + " of the freed one", freed[what], x.takes(0, 1, 0, what));
        }
        Tests.law(x, 0, "mine 1=1;step 0 7;relief off;");
        Tests.law(x, 1, "take through 3;");
        Tests.due("what 1, ahead", 70, x.takes(0, 0, 0, 1));
        Tests.due("what 2, taken", 40, x.takes(0, 0, 0, 2));
        for (int what : new int[] {-1, 5, 6, 32, MIN, MAX}) {
            Tests.due("what " + what, NONE, x.takes(0, 0, 0, what));
        }
    }

    /** "3 how many ANSWERS the SUM has (LAND not asked)": asked by all others. */
    private static void takesLandNotAsked() {
        FiveLands x = new FiveLands();
        x.sum(0, 0, 0, 1, 0, 0);
        for (int l : new int[] {-1, 6, 64, MIN, MAX}) {
            for (int what = 0; what < 5; what++) {
                Tests.due("land " + l + " what " + what, what == 3 ? 1 : NONE, x.takes(0, 0, l, what));
            }
        }
    }

    /** "Of a YEAR what 0 .. 5 .. NONE if .. another what". */
    private static void owesWhats() {
        FiveLands x = new FiveLands();
        Tests.law(x, 0, "mine 1=1;step 0 7;");
        Tests.law(x, 1, "mine 1=1;step 0 3;");
        x.sum(0, 0, 0, 10, 0, 0);
        x.night(0, 0, 59, 0);
        long[] due = {100, 0, 1, 3, 10, 300};
        for (int what = 0; what < 6; what++) {
            Tests.due("what " + what, due[what], x.owes(0, what));
        }
        for (int what : new int[] {-1, 6, 7, 32, MIN, MAX}) {
            Tests.due("what " + what, NONE, x.owes(0, what));
        }
    }
}
