/** The boundary cases of Terms 1 and 3 and of promises 1 to 5, 10 and 11: one test for each sentence that names one. */
public final class BoundsYearTest {
    private static final int NONE = FiveLands.NONE;
    private static final int MIN = Integer.MIN_VALUE;
    private static final int MAX = Integer.MAX_VALUE;
    /** Numbers that are no LAND, those among them that would be one if only some of their bits were looked at. */
    private static final int[] NO_LANDS = {NONE, 6, 7, -2, -6, 32, 33, 64, 65, 256, 1 << 16, 1 << 30, MIN, MIN + 1, MAX, MAX - 1};
    private static final int[] NO_YEARS = {-1, 2, 3, -2, 32, 64, 256, 1 << 16, MIN, MAX};

    public static void main(String[] args) {
        emptyYears();
        emptyLaws();
        emptyPacts();
        yearsApart();
        yearsOfAllCalls();
        landsOfAllCalls();
        nightsFirstAndLast();
        nightsOneAndAll();
        nightsOrder();
        nightLands();
        nightRefusedDoesNothing();
        rubbedOutAgain();
        homesEmptyAndFull();
        homeTwice();
        tieWhats();
        tieLands();
        sumKinds();
        sumReals();
        sumAmounts();
        sumLands();
        sumsTwelve();
        ofWhats();
        ofCounts();
        mostInAnother();
        saysByTheLastLine();
        bothSaySo();
        pactsWithoutTests();
        testsAlike();
        nightsForMore();
        testsTwenty();
        givesWayToNobody();
        givesWayAllAtOnce();
        hisNoneAndAll();
        decidesThatCantBe();
        callsTo512();
        Tests.finish();
    }

    /** "Two empty YEARS"; "RUBBED OUT; all at first", "HOMES .. (none at first)", "BOND .. BIRTH .. (none at first)". */
    private static void emptyYears() {
        FiveLands x = new FiveLands();
        for (int y = 0; y < 2; y++) {
            Tests.due("all are rubbed out", 360, x.owes(y, 5));
            Tests.due("no base", 0, x.owes(y, 4));
            Tests.due("his none", 0, x.owes(y, 3));
            Tests.due("twice none", 0, x.owes(y, 2));
            Tests.due("nobody's none", 0, x.owes(y, 1));
            Tests.due("owes none", 0, x.owes(y, 0));
            Tests.due("no sums", 0, x.look(y));
            Tests.due("no sum 0", NONE, x.takes(y, 0, 0, 2));
            for (int l = 0; l < 6; l++) {
                for (int what = 0; what < 7; what++) {
                    Tests.due("of(" + y + "," + l + "," + what + ")", 0, x.of(y, l, what));
                }
                Tests.due("gives way to none", NONE, x.of(y, l, 7));
            }
        }
    }

    /** "no LAWS"; "LAWS of LANDS are TEXTS (empty at first)". */
    private static void emptyLaws() {
        FiveLands x = new FiveLands();
        x.sum(0, 0, 0, 999999, 0, 0);
        for (int l = 0; l < 6; l++) {
            x.night(0, 0, 359, l);
            x.home(0, l, true);
            Tests.due("says nothing", 0, x.of(0, l, 5));
            Tests.due("hangs never", 0, x.hangs(0, l));
            Tests.due("without steps", 0, x.tax(l, 99999999));
            Tests.due("without a line take", 0, x.takes(0, 0, l, 1));
        }
        Tests.due("it is nobody's", 1, x.owes(0, 1));
    }

    /** "no PACTS"; "PACTS of two LANDS are TEXTS (empty at first)". */
    private static void emptyPacts() {
        FiveLands x = new FiveLands();
        for (int l = 0; l < 6; l++) {
            Tests.law(x, l, "mine 1=1;take pay 100;");
        }
        x.home(0, 0, true);
        x.tie(0, 0, 0);
        x.night(0, 0, 359, 0);
        x.sum(0, 5, 0, 10, 0, 0);
        for (int a = 0; a < 6; a++) {
            for (int b = 0; b < 6; b++) {
                Tests.due("no test decides", NONE, x.decides(0, a, b));
            }
            Tests.due("no pact looks", 5, x.takes(0, 0, a, 0));
            Tests.due("no relief", 0, x.takes(0, 0, a, 4));
        }
        Tests.due("none gives way", 63, x.owes(0, 3));
        Tests.due("no top", 100, x.round(0, 0, 1, 0));
    }

    /** "YEARS are 0 (his) and 1 (that of somebody honest), both with all that follows." */
    private static void yearsApart() {
        for (int y = 0; y < 2; y++) {
            FiveLands x = new FiveLands();
            Tests.law(x, 3, "mine nights=5 and home=1 and bond=1 and birth=1;step 0 10;");
            x.night(y, 0, 4, 3);
            x.home(y, 3, true);
            x.tie(y, 0, 3);
            x.tie(y, 1, 3);
            x.sum(y, 0, 0, 100, 0, 0);
            x.sum(1 - y, 0, 0, 100, 0, 0);
            x.move(0, 3);
            for (int what = 0; what < 4; what++) {
                Tests.due("of this year", what == 0 ? 5 : 1, x.of(y, 3, what));
                Tests.due("of the other year", 0, x.of(1 - y, 3, what));
            }
            Tests.due("his in this year", 8, x.owes(y, 3));
            Tests.due("not in the other one", 0, x.owes(1 - y, 3));
            Tests.due("owes in this year", 1000, x.owes(y, 0));
            Tests.due("nothing in the other one", 0, x.owes(1 - y, 0));
            Tests.due("an edge in this year", 1, x.edge(y, 3, 0, 0));
            Tests.due("none in the other one", NONE, x.edge(1 - y, 3, 0, 0));
            Tests.due("hangs in this year", 2, x.hangs(y, 3));
            Tests.due("never in the other one", 0, x.hangs(1 - y, 3));
            Tests.due("a move in this year", 0, x.best(y, 0));
            Tests.due("none is better in the other one", NONE, x.best(1 - y, 0));
        }
    }

    /** "YEARS are 0 .. and 1": -1 and 2 can't be, in no call. */
    private static void yearsOfAllCalls() {
        FiveLands x = new FiveLands();
        Tests.law(x, 0, "mine 1=1;step 0 1;");
        Tests.law(x, 1, "mine 1=1;");
        Tests.pact(x, 0, 1, "test home;");
        for (int y = 0; y < 2; y++) {
            Tests.yes("night", x.night(y, 0, 0, 0));
            Tests.yes("home", x.home(y, 0, true));
            Tests.yes("tie", x.tie(y, 0, 0));
            Tests.due("sum", 0, x.sum(y, 0, 0, 1, 0, 0));
            Tests.due("of", 1, x.of(y, 0, 0));
            Tests.due("decides", 0, x.decides(y, 0, 1));
            Tests.due("takes", 1, x.takes(y, 0, 0, 1));
            Tests.due("owes", 1, x.owes(y, 0));
            Tests.due("hangs", 1, x.hangs(y, 0));
            Tests.due("best", 1, x.best(y, 1));
        }
        for (int y : NO_YEARS) {
            Tests.no("night in year " + y, x.night(y, 0, 0, 0));
            Tests.no("home in year " + y, x.home(y, 0, true));
            Tests.no("tie in year " + y, x.tie(y, 0, 0));
            Tests.due("sum in year " + y, NONE, x.sum(y, 0, 0, 1, 0, 0));
            Tests.due("of in year " + y, NONE, x.of(y, 0, 0));
            Tests.due("decides in year " + y, NONE, x.decides(y, 0, 1));
            Tests.due("takes in year " + y, NONE, x.takes(y, 0, 0, 1));
            Tests.due("owes in year " + y, NONE, x.owes(y, 0));
            Tests.due("edge in year " + y, NONE, x.edge(y, 0, 1, 0));
            Tests.due("hangs in year " + y, NONE, x.hangs(y, 0));
            Tests.due("best in year " + y, NONE, x.best(y, 1));
        }
    }

    /** "LANDS are 0 .. 5": -1 and 6 can't be, in no call. */
    private static void landsOfAllCalls() {
        FiveLands x = new FiveLands();
        x.sum(0, 0, 0, 1, 0, 0);
        for (int l : new int[] {0, 5}) {
            int other = 5 - l;
            Tests.yes("night", x.night(0, l, l, l));
            Tests.yes("home", x.home(0, l, true));
            Tests.due("of", 1, x.of(0, l, 0));
            Tests.due("tax", 0, x.tax(l, 1));
            Tests.due("takes", 0, x.takes(0, 0, l, 1));
            Tests.due("hangs", 0, x.hangs(0, l));
            Tests.due("round", 0, x.round(0, l, other, 0));
            Tests.due("text", 0, x.text(l, NONE));
        }
        Tests.due("pact of 0 and 5", 0, x.text(0, 5));
        for (int l : NO_LANDS) {
            Tests.no("home in land " + l, x.home(0, l, true));
            Tests.no("no home in land " + l, x.home(0, l, false));
            Tests.due("of land " + l, NONE, x.of(0, l, 0));
            Tests.due("tax of land " + l, NONE, x.tax(l, 1));
            Tests.due("takes of land " + l, NONE, x.takes(0, 0, l, 1));
            Tests.due("hangs of land " + l, NONE, x.hangs(0, l));
            Tests.due("edge of land " + l, NONE, x.edge(0, l, 0, 0));
            Tests.due("edge with land " + l, NONE, x.edge(0, 0, l, 0));
            Tests.due("text of land " + l, NONE, x.text(l, NONE));
            Tests.due("source " + l, NONE, x.round(0, l, 0, 0));
            Tests.due("to " + l, NONE, x.round(0, 0, l, 0));
        }
    }

    /** "NIGHTS 0 .. 359": -1 and 360 can't be, from and to. */
    private static void nightsFirstAndLast() {
        FiveLands x = new FiveLands();
        Tests.yes("the first night", x.night(0, 0, 0, 1));
        Tests.yes("the last night", x.night(0, 359, 359, 2));
        Tests.due("one in 1", 1, x.of(0, 1, 0));
        Tests.due("one in 2", 1, x.of(0, 2, 0));
        for (int n : new int[] {-1, -2, -360, 360, 361, 720, MIN, MAX}) {
            Tests.no("from and to " + n, x.night(0, n, n, 3));
            Tests.no("from 0 to " + n, x.night(0, 0, n, 3));
            Tests.no("from " + n + " to 359", x.night(0, n, 359, 3));
        }
        Tests.due("none in 3", 0, x.of(0, 3, 0));
    }

    /** "NIGHTS from .. to": as few as one, as many as all. */
    private static void nightsOneAndAll() {
        FiveLands x = new FiveLands();
        Tests.yes("one", x.night(0, 180, 180, 4));
        Tests.due("one is told", 1, x.of(0, 4, 0));
        Tests.due("359 are not", 359, x.owes(0, 5));
        Tests.yes("all", x.night(0, 0, 359, 4));
        Tests.due("all are told", 360, x.of(0, 4, 0));
        Tests.due("none is rubbed out", 0, x.owes(0, 5));
        Tests.yes("all but the first and the last", x.night(0, 1, 358, 0));
        Tests.due("two are left", 2, x.of(0, 4, 0));
    }

    /** "from .. to": nothing lies between if from is above to. */
    private static void nightsOrder() {
        FiveLands x = new FiveLands();
        Tests.yes("alike", x.night(0, 5, 5, 0));
        Tests.no("one above", x.night(0, 6, 5, 0));
        Tests.no("the last to the first", x.night(0, 359, 0, 0));
        Tests.yes("one below", x.night(0, 5, 6, 0));
        Tests.due("two nights", 2, x.of(0, 0, 0));
    }

    /** "are in a LAND (NONE: RUBBED OUT)". */
    private static void nightLands() {
        FiveLands x = new FiveLands();
        Tests.yes("in 0", x.night(0, 0, 9, 0));
        Tests.yes("in 5", x.night(0, 10, 19, 5));
        Tests.yes("rubbed out", x.night(0, 5, 14, NONE));
        Tests.due("five in 0", 5, x.of(0, 0, 0));
        Tests.due("five in 5", 5, x.of(0, 5, 0));
        Tests.due("350 rubbed out", 350, x.owes(0, 5));
        for (int l : NO_LANDS) {
            Tests.due("night in land " + l, l == NONE ? 1 : 0, x.night(0, 20, 20, l) ? 1 : 0);
        }
        Tests.due("350 still", 350, x.owes(0, 5));
    }

    /** "false, and nothing is done, if one can't be." */
    private static void nightRefusedDoesNothing() {
        FiveLands x = new FiveLands();
        x.night(0, 0, 359, 2);
        Tests.no("to beyond the last", x.night(0, 0, 360, 3));
        Tests.no("from ahead of the first", x.night(0, -1, 359, 3));
        Tests.no("a land beyond the last", x.night(0, 0, 359, 6));
        Tests.no("a land ahead of NONE", x.night(0, 0, 359, -2));
        Tests.no("a year beyond the last", x.night(2, 0, 359, 3));
        Tests.due("all are where they were", 360, x.of(0, 2, 0));
        Tests.due("and in year 1", 360, x.owes(1, 5));
    }

    /** "or nobody knows (RUBBED OUT)": told, rubbed out and told again. */
    private static void rubbedOutAgain() {
        FiveLands x = new FiveLands();
        x.night(1, 0, 359, 5);
        x.night(1, 0, 359, NONE);
        Tests.due("all are rubbed out again", 360, x.owes(1, 5));
        Tests.due("none in 5", 0, x.of(1, 5, 0));
        x.night(1, 0, 359, NONE);
        Tests.due("twice is once", 360, x.owes(1, 5));
        x.night(1, 359, 359, 5);
        Tests.due("one is told again", 359, x.owes(1, 5));
    }

    /** "HOMES are a set of LANDS": none, all, and none again. */
    private static void homesEmptyAndFull() {
        FiveLands x = new FiveLands();
        for (int l = 0; l < 6; l++) {
            Tests.yes("a home more", x.home(0, l, true));
        }
        for (int l = 0; l < 6; l++) {
            Tests.due("a home in each", 1, x.of(0, l, 1));
        }
        for (int l = 0; l < 6; l++) {
            Tests.yes("a home less", x.home(0, l, false));
            for (int m = 0; m < 6; m++) {
                Tests.due("those behind it are left", m > l ? 1 : 0, x.of(0, m, 1));
            }
        }
    }

    /** "There is a HOME in a LAND, or not: true": also if it was so. */
    private static void homeTwice() {
        FiveLands x = new FiveLands();
        Tests.yes("there was none", x.home(1, 0, false));
        Tests.due("none still", 0, x.of(1, 0, 1));
        Tests.yes("a home", x.home(1, 0, true));
        Tests.yes("a home again", x.home(1, 0, true));
        Tests.yes("none again", x.home(1, 0, false));
        Tests.due("once is enough", 0, x.of(1, 0, 1));
    }

    /** "BOND (what 0) or BIRTH (1)": no other what. */
    private static void tieWhats() {
        FiveLands x = new FiveLands();
        Tests.yes("bond", x.tie(0, 0, 1));
        Tests.yes("birth", x.tie(0, 1, 2));
        for (int what : new int[] {-1, 2, 3, 32, 256, MIN, MAX}) {
            Tests.no("tie " + what, x.tie(0, what, 3));
        }
        Tests.due("bond as it was", 1, x.of(0, 1, 2));
        Tests.due("birth as it was", 1, x.of(0, 2, 3));
        Tests.due("none in 3", 0, x.of(0, 3, 2) + x.of(0, 3, 3));
    }

    /** "is a LAND (NONE: none)". */
    private static void tieLands() {
        FiveLands x = new FiveLands();
        for (int what = 0; what < 2; what++) {
            Tests.yes("the first land", x.tie(0, what, 0));
            Tests.due("there", 1, x.of(0, 0, 2 + what));
            Tests.yes("the last land", x.tie(0, what, 5));
            Tests.due("no more there", 0, x.of(0, 0, 2 + what));
            for (int l : NO_LANDS) {
                if (l != NONE) {
                    Tests.no("land " + l, x.tie(0, what, l));
                }
            }
            Tests.due("still in the last", 1, x.of(0, 5, 2 + what));
            Tests.yes("none", x.tie(0, what, NONE));
            Tests.due("in none", 0, x.of(0, 5, 2 + what));
        }
    }

    /** "a KIND 0 pay .. 5 through". */
    private static void sumKinds() {
        FiveLands x = new FiveLands();
        for (int kind : new int[] {-1, 6, 7, 32, -5, MIN, MAX}) {
            Tests.due("kind " + kind, NONE, x.sum(0, kind, 0, 1, 0, 0));
        }
        for (int kind = 0; kind < 6; kind++) {
            Tests.due("kind " + kind, kind, x.sum(0, kind, 0, 1, 0, 0));
            Tests.due("is seen so", kind, x.takes(0, kind, 0, 0));
        }
        Tests.due("six came", 6, x.look(0));
    }

    /** "REAL 0 .. 4; not asked but for 5"; "0 .. 4; for 5 alone, else it is the KIND". */
    private static void sumReals() {
        FiveLands x = new FiveLands();
        Tests.law(x, 0, "mine 1=1;");
        Tests.pact(x, 0, 1, "look;");
        for (int real : new int[] {-1, 5, 6, 32, MIN, MAX}) {
            Tests.due("through of " + real, NONE, x.sum(0, 5, real, 1, 0, 0));
        }
        for (int real = 0; real < 5; real++) {
            Tests.due("through of " + real, real, x.sum(0, 5, real, 1, 0, 0));
            Tests.due("looked through", real, x.takes(0, real, 1, 0));
        }
        int n = 5;
        for (int real : new int[] {-1, 5, MIN, MAX, 0}) {
            Tests.due("a gain, real " + real, n, x.sum(0, 2, real, 1, 0, 0));
            Tests.due("is a gain when looked through", 2, x.takes(0, n, 1, 0));
            n++;
        }
    }

    /** "an AMOUNT 1 .. 999999". */
    private static void sumAmounts() {
        FiveLands x = new FiveLands();
        for (int amount : new int[] {0, -1, 1000000, MIN, MAX, -999999}) {
            Tests.due("amount " + amount, NONE, x.sum(1, 0, 0, amount, 0, 0));
        }
        Tests.due("no base", 0, x.owes(1, 4));
        Tests.due("the least", 0, x.sum(1, 0, 0, 1, 0, 0));
        Tests.due("base 1", 1, x.owes(1, 4));
        Tests.due("the greatest", 1, x.sum(1, 0, 0, 999999, 0, 0));
        Tests.due("base 1000000", 1000000, x.owes(1, 4));
    }

    /** "the SOURCE (a LAND), the PAYER (a LAND)". */
    private static void sumLands() {
        FiveLands x = new FiveLands();
        for (int l : NO_LANDS) {
            Tests.due("source " + l, NONE, x.sum(0, 0, 0, 1, l, 0));
            Tests.due("payer " + l, NONE, x.sum(0, 0, 0, 1, 0, l));
        }
        Tests.law(x, 0, "take pay 10*in+pays;");
        Tests.law(x, 5, "take pay 10*in+pays;");
        Tests.due("the first and the last", 0, x.sum(0, 0, 0, 1, 0, 5));
        Tests.due("the last and the first", 1, x.sum(0, 0, 0, 1, 5, 0));
        Tests.due("source 0", 10, x.takes(0, 0, 0, 1));
        Tests.due("payer 5", 1, x.takes(0, 0, 5, 1));
        Tests.due("payer 0", 1, x.takes(0, 1, 0, 1));
        Tests.due("source 5", 10, x.takes(0, 1, 5, 1));
    }

    /** "SUMS 0 .. 11 as they come"; "NONE .. if there are twelve": in each YEAR. */
    private static void sumsTwelve() {
        FiveLands x = new FiveLands();
        for (int y = 0; y < 2; y++) {
            for (int i = 0; i < 12; i++) {
                Tests.due("sum " + i, i, x.sum(y, 0, 0, i + 1, 0, 0));
                Tests.due("so many are there", i + 1, x.look(y));
            }
            Tests.due("the 13th", NONE, x.sum(y, 0, 0, 1, 0, 0));
            Tests.due("the 14th", NONE, x.sum(y, 5, 4, 999999, 5, 5));
            Tests.due("twelve are there", 12, x.look(y));
            Tests.due("base", 78, x.owes(y, 4));
            Tests.due("the last one is there", 0, x.takes(y, 11, 0, 0));
            Tests.due("none behind it", NONE, x.takes(y, 12, 0, 0));
        }
    }

    /** "Of a YEAR and a LAND what 0 .. 7", "NONE if .. another what": also of a LAND that gives way to another one. */
    private static void ofWhats() {
        FiveLands x = new FiveLands();
        Tests.law(x, 0, "mine 1=1;");
        Tests.law(x, 5, "mine 1=1;");
        Tests.pact(x, 0, 5, "test home;");
        x.home(0, 0, true);
        Tests.due("what 0", 0, x.of(0, 5, 0));
        Tests.due("what 7", 0, x.of(0, 5, 7));
        for (int what : new int[] {-1, 8, 9, 32, -8, 1 << 20, MIN, MAX}) {
            Tests.due("what " + what, NONE, x.of(0, 5, what));
        }
    }

    /** "0 NIGHTS, 1 HOME, 2 BOND, 3 BIRTH (1 or 0)": none and all. */
    private static void ofCounts() {
        FiveLands x = new FiveLands();
        x.night(0, 0, 359, 5);
        x.home(0, 5, true);
        x.tie(0, 0, 5);
        x.tie(0, 1, 5);
        for (int what = 0; what < 4; what++) {
            Tests.due("of 5, " + what, what == 0 ? 360 : 1, x.of(0, 5, what));
            Tests.due("of 4, " + what, 0, x.of(0, 4, what));
        }
    }

    /** "most (the most NIGHTS in another one LAND)": its own don't count, RUBBED OUT ones neither, nor do two LANDS' together. */
    private static void mostInAnother() {
        FiveLands x = new FiveLands();
        Tests.due("all rubbed out", 0, x.of(0, 0, 4));
        x.night(0, 0, 359, 0);
        Tests.due("all in itself", 0, x.of(0, 0, 4));
        Tests.due("all in another one", 360, x.of(0, 5, 4));
        x.night(0, 0, 179, 5);
        Tests.due("half", 180, x.of(0, 0, 4));
        Tests.due("the other half", 180, x.of(0, 5, 4));
        Tests.due("not both together", 180, x.of(0, 3, 4));
        x.night(0, 0, 0, 3);
        Tests.due("the more of two", 180, x.of(0, 3, 4));
        Tests.due("the last land has less", 180, x.of(0, 5, 4));
    }

    /** "A LAND SAYS he is its own, if B of some line mine is so": none, the last of twenty alone. */
    private static void saysByTheLastLine() {
        String nineteen = "mine 1=2;".repeat(19);
        FiveLands x = new FiveLands();
        Tests.law(x, 0, nineteen + "mine home=1;");
        Tests.due("no line is so", 0, x.of(0, 0, 5));
        x.home(0, 0, true);
        Tests.due("the last one is", 1, x.of(0, 0, 5));
        Tests.law(x, 0, "mine home=1;" + nineteen);
        Tests.due("the first one is", 1, x.of(0, 0, 5));
        Tests.law(x, 0, "take pay 1;free 1;step 0 1;relief off;");
        Tests.due("no line mine", 0, x.of(0, 0, 5));
    }

    /** "Two that both SAY so": one that doesn't makes none give way. */
    private static void bothSaySo() {
        FiveLands x = new FiveLands();
        Tests.law(x, 0, "mine bond=0;");
        Tests.law(x, 1, "mine birth=0;");
        Tests.pact(x, 0, 1, "test home;");
        x.home(0, 1, true);
        Tests.due("both: 0 gives way", 1, x.of(0, 0, 7));
        Tests.due("his is 1", 2, x.owes(0, 3));
        x.tie(0, 1, 1);
        Tests.due("1 says so no more", NONE, x.of(0, 0, 7));
        Tests.due("his is 0", 1, x.owes(0, 3));
        Tests.due("none decides", NONE, x.decides(0, 0, 1));
        x.tie(0, 1, NONE);
        x.tie(0, 0, 0);
        Tests.due("0 says so no more", NONE, x.of(0, 0, 7));
        Tests.due("his is 1 alone", 2, x.owes(0, 3));
        Tests.due("none decides either", NONE, x.decides(0, 0, 1));
        x.tie(0, 1, 1);
        Tests.due("neither says so", NONE, x.of(0, 0, 7));
        Tests.due("his is none", 0, x.owes(0, 3));
    }

    /** "and have a PACT with a test". */
    private static void pactsWithoutTests() {
        FiveLands x = new FiveLands();
        Tests.law(x, 0, "mine 1=1;");
        Tests.law(x, 1, "mine 1=1;");
        x.home(0, 1, true);
        Tests.due("no pact", 3, x.owes(0, 3));
        Tests.pact(x, 0, 1, "look;only pay;top pay 5;relief off;");
        Tests.due("no test in it", 3, x.owes(0, 3));
        Tests.due("none decides", NONE, x.decides(0, 0, 1));
        Tests.pact(x, 0, 1, "test home;");
        Tests.due("one test", 2, x.owes(0, 3));
        Tests.pact(x, 0, 1, "");
        Tests.due("none again", 3, x.owes(0, 3));
    }

    /** "home, bond, birth decide for the one of both in which it is, if it is not in the other one". */
    private static void testsAlike() {
        String[] tests = {"home", "bond", "birth"};
        for (int what = 0; what < 3; what++) {
            FiveLands x = new FiveLands();
            Tests.law(x, 1, "mine 1=1;");
            Tests.law(x, 4, "mine 1=1;");
            Tests.pact(x, 1, 4, "test " + tests[what] + ";");
            Tests.due("in neither", NONE, x.decides(0, 1, 4));
            put(x, what, 4);
            Tests.due("in 4", 0, x.decides(0, 1, 4));
            Tests.due("1 gives way", 4, x.of(0, 1, 7));
            Tests.due("4 does not", NONE, x.of(0, 4, 7));
            put(x, what, 1);
            Tests.due("in 1", what == 0 ? NONE : 0, x.decides(0, 1, 4));
            Tests.due("4 gives way, but for two homes", what == 0 ? NONE : 1, x.of(0, 4, 7));
            x.home(0, 4, false);
            Tests.due("in 1 alone", 0, x.decides(0, 1, 4));
            Tests.due("4 gives way", 1, x.of(0, 4, 7));
            put(x, what, 2);
            x.home(0, 1, false);
            Tests.due("in a third one", NONE, x.decides(0, 1, 4));
        }
    }

    private static void put(FiveLands x, int what, int land) {
        if (what == 0) {
            x.home(0, land, true);
        } else {
            x.tie(0, what - 1, land);
        }
    }

    /** "nights for the one with more": as many decide nothing, one more does. */
    private static void nightsForMore() {
        FiveLands x = new FiveLands();
        Tests.law(x, 0, "mine 1=1;");
        Tests.law(x, 5, "mine 1=1;");
        Tests.pact(x, 0, 5, "test nights;");
        Tests.due("none in both", NONE, x.decides(0, 0, 5));
        x.night(0, 0, 0, 5);
        Tests.due("one to none", 0, x.of(0, 5, 6) == 1 ? x.decides(0, 0, 5) : -99);
        Tests.due("0 gives way", 5, x.of(0, 0, 7));
        x.night(0, 0, 178, 5);
        x.night(0, 179, 357, 0);
        Tests.due("179 to 179", NONE, x.decides(0, 0, 5));
        x.night(0, 358, 358, 0);
        Tests.due("180 to 179", 0, x.of(0, 5, 7));
        x.night(0, 359, 359, 5);
        Tests.due("180 to 180", NONE, x.of(0, 5, 7));
        x.night(0, 358, 358, 5);
        Tests.due("179 to 181", 5, x.of(0, 0, 7));
        x.night(0, 0, 359, 5);
        Tests.due("none to all", 5, x.of(0, 0, 7));
    }

    /** "its number, 0 the first one there": the first of twenty that decides, the last of them at most. */
    private static void testsTwenty() {
        FiveLands x = new FiveLands();
        Tests.law(x, 2, "mine 1=1;");
        Tests.law(x, 3, "mine 1=1;");
        Tests.due("twenty tests", 20, Tests.pact(x, 2, 3, "test home;" + "test bond;".repeat(18) + "test nights;"));
        Tests.due("none decides", NONE, x.decides(1, 2, 3));
        x.night(1, 7, 7, 3);
        Tests.due("the last one", 19, x.decides(1, 2, 3));
        Tests.due("either way round", 19, x.decides(1, 3, 2));
        Tests.due("2 gives way", 3, x.of(1, 2, 7));
        x.tie(1, 0, 2);
        Tests.due("the second one", 1, x.decides(1, 2, 3));
        Tests.due("3 gives way now", 2, x.of(1, 3, 7));
        x.home(1, 3, true);
        Tests.due("the first one", 0, x.decides(1, 2, 3));
        Tests.due("2 gives way again", 3, x.of(1, 2, 7));
        Tests.due("a pact with one other line ahead", 2, Tests.pact(x, 2, 3, "look;test home;"));
        Tests.due("is counted by tests", 0, x.decides(1, 2, 3));
    }

    /** "the first LAND to which it GIVES WAY (NONE)". */
    private static void givesWayToNobody() {
        FiveLands x = new FiveLands();
        for (int l = 0; l < 6; l++) {
            Tests.law(x, l, "mine 1=1;");
        }
        for (int l = 1; l < 6; l++) {
            Tests.pact(x, 0, l, "test home;");
        }
        Tests.due("none", NONE, x.of(0, 0, 7));
        for (int l = 5; l > 0; l--) {
            x.home(0, l, true);
            Tests.due("the first of several", l, x.of(0, 0, 7));
            Tests.due("it gives way to none", NONE, x.of(0, l, 7));
        }
        x.home(0, 0, true);
        Tests.due("none again", NONE, x.of(0, 0, 7));
        for (int l = 1; l < 6; l++) {
            x.home(0, l, false);
            Tests.due("the first land of all", 0, x.of(0, l, 7));
        }
    }

    /** "HIS are all LANDS that SAY so and GIVE WAY to none (all at once)": three that give way in a ring leave none. */
    private static void givesWayAllAtOnce() {
        FiveLands x = new FiveLands();
        for (int l = 0; l < 3; l++) {
            Tests.law(x, l, "mine 1=1;");
        }
        Tests.pact(x, 0, 1, "test home;");
        Tests.pact(x, 1, 2, "test bond;");
        Tests.pact(x, 0, 2, "test birth;");
        x.home(0, 1, true);
        Tests.due("0 gives way", 6, x.owes(0, 3));
        x.tie(0, 0, 2);
        Tests.due("0 and 1 give way", 4, x.owes(0, 3));
        x.tie(0, 1, 0);
        Tests.due("all do", 0, x.owes(0, 3));
        for (int l = 0; l < 3; l++) {
            Tests.due("still says so", 1, x.of(0, l, 5));
            Tests.due("is not his", 0, x.of(0, l, 6));
            Tests.due("gives way to the next", (l + 1) % 3, x.of(0, l, 7));
        }
    }

    /** "HIS as a set": none, each alone, all six. */
    private static void hisNoneAndAll() {
        FiveLands x = new FiveLands();
        for (int l = 0; l < 6; l++) {
            Tests.law(x, l, "mine home=1;");
        }
        Tests.due("none", 0, x.owes(0, 3));
        int all = 0;
        for (int l = 0; l < 6; l++) {
            x.home(0, l, true);
            all = all * 2 + 1;
            Tests.due("as many as homes", all, x.owes(0, 3));
            Tests.due("and this one", 1, x.of(0, l, 6));
        }
        for (int l = 0; l < 5; l++) {
            x.home(0, l, false);
        }
        Tests.due("the last alone", 32, x.owes(0, 3));
    }

    /** "NONE if none does, not both SAY so, there is none, or one can't be." */
    private static void decidesThatCantBe() {
        FiveLands x = new FiveLands();
        for (int l = 0; l < 6; l++) {
            Tests.law(x, l, "mine 1=1;");
        }
        for (int a = 0; a < 6; a++) {
            for (int b = a + 1; b < 6; b++) {
                Tests.pact(x, a, b, "test home;");
            }
        }
        x.home(0, 0, true);
        Tests.due("the least two", 0, x.decides(0, 0, 1));
        Tests.due("the farthest two", 0, x.decides(0, 0, 5));
        Tests.due("the other way round", 0, x.decides(0, 5, 0));
        Tests.due("none does", NONE, x.decides(0, 4, 5));
        for (int l = 0; l < 6; l++) {
            Tests.due("with itself", NONE, x.decides(0, l, l));
        }
        for (int l : NO_LANDS) {
            Tests.due("0 and " + l, NONE, x.decides(0, 0, l));
            Tests.due(l + " and 0", NONE, x.decides(0, l, 0));
            Tests.due("1 and " + l, NONE, x.decides(0, 1, l));
            Tests.due(l + " and 1", NONE, x.decides(0, l, 1));
            Tests.due("twice " + l, NONE, x.decides(0, l, l));
        }
    }

    /** "used for at most 512 calls": the 512th is answered as the first. */
    private static void callsTo512() {
        FiveLands x = new FiveLands();
        for (int i = 0; i < 255; i++) {
            x.home(0, 5, i % 2 == 0);
            x.night(0, i, i, i % 6);
        }
        Tests.due("the 511th call", 1, x.of(0, 5, 1));
        Tests.due("the 512th call", 105, x.owes(0, 5));
    }
}
