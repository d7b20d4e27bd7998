/** The boundary cases of Term 5 and of promises 15 to 26: one test for each sentence that names one. */
public final class BoundsPlanTest {
    private static final int NONE = FiveLands.NONE;
    private static final long NO_EDGE = -1000000000000L;
    private static final int MIN = Integer.MIN_VALUE;
    private static final int MAX = Integer.MAX_VALUE;
    private static final String[] KINDS = {"pay", "let", "gain", "share", "pension", "through"};

    public static void main(String[] args) {
        edgeOfOneAndAll();
        edgeAsManyAsThereAre();
        edgeNotBeyondWhatIsThere();
        edgeOfThoseKnown();
        edgeFirstToSecond();
        edgeByAllThatIsAsked();
        edgeOwes();
        edgeOwesBeyondInts();
        edgeNone();
        hangsOfNoneAndAll();
        hangsByTheFirstAndTheLast();
        hangsByAnyOtherOne();
        hangsByAllThatIsAsked();
        hangsThatCantBe();
        movesTwenty();
        movesThatCantBe();
        movesFromANightOn();
        movesHomesAlone();
        bestOfNone();
        bestOfSeveral();
        bestWhats();
        turningsSix();
        turningsThatCantBe();
        turningsOfEachSum();
        slyOfNoneAndAll();
        slyOneForASum();
        slyPrices();
        slyLeastSet();
        slyRealStays();
        slyWhats();
        wordsSix();
        wordsThatCantBe();
        wordsKindNotAsked();
        mendOfNone();
        mendOfAll();
        mendFewest();
        mendClosesJust();
        mendHonestJust();
        mendOfBothYears();
        mendLaterWord();
        roundKinds();
        roundLands();
        roundCut();
        roundOnlyAndTop();
        roundThird();
        roundAsked();
        roundWhats();
        answersTen();
        answersThatCantBe();
        answersNotAsked();
        judgedNone();
        judgedFirstWrong();
        judgedByHisAndTaken();
        judgedByAllOfV();
        looks();
        Tests.finish();
    }

    /** "the fewest NIGHTS n (1 and more)": 1, and all 360. */
    private static void edgeOfOneAndAll() {
        FiveLands x = new FiveLands();
        x.night(0, 0, 359, 3);
        Tests.law(x, 3, "mine nights=360;");
        Tests.due("one less", 1, x.edge(0, 3, 0, 0));
        Tests.law(x, 3, "mine nights=0;");
        Tests.due("all", 360, x.edge(0, 3, 5, 0));
        Tests.law(x, 3, "mine nights<2;");
        Tests.due("all but one", 359, x.edge(0, 3, 5, 0));
        Tests.law(x, 5, "mine nights=360;");
        Tests.due("all come", 360, x.edge(0, 5, 3, 0));
        Tests.law(x, 5, "mine nights>360;");
        Tests.due("more than all", NONE, x.edge(0, 5, 3, 0));
        Tests.law(x, 5, "mine nights>0;");
        Tests.due("one comes", 1, x.edge(0, 5, 3, 0));
        Tests.law(x, 5, "mine 1=1;");
        Tests.due("nothing changes it", NONE, x.edge(0, 5, 3, 0));
    }

    /** "moved from one of both to the other one (either way, as many as there are there)". */
    private static void edgeAsManyAsThereAre() {
        FiveLands x = new FiveLands();
        x.night(0, 0, 9, 1);
        x.night(0, 10, 29, 2);
        x.night(0, 30, 329, 3);
        long[][] due = {{0, 10}, {1, 9}, {9, 1}, {11, 1}, {29, 19}, {30, 20}, {31, NONE}};
        for (long[] d : due) {
            Tests.law(x, 1, "mine nights=" + d[0] + ";");
            Tests.due("to have " + d[0], d[1], x.edge(0, 1, 2, 0));
        }
        Tests.law(x, 1, "mine nights=30;");
        Tests.due("none are in 4", NONE, x.edge(0, 1, 4, 0));
        Tests.law(x, 1, "mine nights=0;");
        Tests.due("all go to 4", 10, x.edge(0, 1, 4, 0));
        Tests.law(x, 4, "mine nights=10;");
        Tests.due("all come from 1", 10, x.edge(0, 4, 1, 0));
        Tests.law(x, 4, "mine nights=11;");
        Tests.due("there are no more", NONE, x.edge(0, 4, 1, 0));
        Tests.law(x, 4, "mine nights>0;");
        Tests.due("none in both", NONE, x.edge(0, 4, 5, 0));
    }

    /** "as many as there are there": not more, though what the other one has would decide it then. */
    private static void edgeNotBeyondWhatIsThere() {
        FiveLands x = new FiveLands();
        Tests.law(x, 0, "mine most>10;");
        x.night(0, 0, 9, 0);
        Tests.due("ten go, not eleven", NONE, x.edge(0, 0, 1, 0));
        Tests.due("nor by 1", NO_EDGE, x.edge(0, 0, 1, 1));
        x.night(0, 10, 10, 0);
        Tests.due("eleven go", 11, x.edge(0, 0, 1, 0));
        x.night(0, 10, 10, 2);
        Tests.due("the eleventh is in 2", NONE, x.edge(0, 0, 1, 0));
        Tests.law(x, 0, "mine nights>10;");
        x.night(0, 0, 9, 1);
        Tests.due("ten come, not eleven", NONE, x.edge(0, 0, 1, 0));
        x.night(0, 10, 10, 1);
        Tests.due("eleven come", 11, x.edge(0, 0, 1, 0));
    }

    /** "of those known": RUBBED OUT NIGHTS are not moved. */
    private static void edgeOfThoseKnown() {
        FiveLands x = new FiveLands();
        Tests.law(x, 0, "mine nights>0;");
        Tests.due("all are rubbed out", NONE, x.edge(0, 0, 1, 0));
        x.night(0, 359, 359, 1);
        Tests.due("one is known", 1, x.edge(0, 0, 1, 0));
        x.night(0, 359, 359, NONE);
        Tests.due("and rubbed out", NONE, x.edge(0, 0, 1, 0));
        Tests.due("all still are", 360, x.owes(0, 5));
    }

    /** "of both ways from the first to the second at one n": OWES tells which one it is. */
    private static void edgeFirstToSecond() {
        FiveLands x = new FiveLands();
        x.night(0, 0, 9, 0);
        x.night(0, 10, 19, 1);
        x.sum(0, 0, 0, 1, 5, 5);
        Tests.law(x, 0, "mine nights=8;mine nights=12;");
        Tests.law(x, 1, "take pay nights;");
        Tests.due("two, either way", 2, x.edge(0, 0, 1, 0));
        Tests.due("they go to 1", 2, x.edge(0, 0, 1, 1));
        Tests.law(x, 0, "mine nights=7;mine nights=12;");
        Tests.due("two come", 2, x.edge(0, 0, 1, 0));
        Tests.due("they come from 1", -2, x.edge(0, 0, 1, 1));
    }

    /** "change whether the first one SAYS he is its own": by all that its law asks. */
    private static void edgeByAllThatIsAsked() {
        FiveLands x = new FiveLands();
        x.night(1, 0, 9, 4);
        x.night(1, 10, 19, 0);
        x.night(1, 20, 34, 2);
        x.home(1, 4, true);
        x.tie(1, 0, 4);
        x.tie(1, 1, 4);
        Tests.law(x, 4, "mine nights>10 and home=1 and bond=1 and birth=1 and most=15;");
        Tests.due("one comes", 1, x.edge(1, 4, 0, 0));
        Tests.due("not from 2, which has the most", NONE, x.edge(1, 4, 2, 0));
        Tests.law(x, 4, "mine most=16;");
        Tests.due("six go to 0", 6, x.edge(1, 4, 0, 0));
        Tests.due("one goes to 2", 1, x.edge(1, 4, 2, 0));
        x.home(1, 4, false);
        Tests.law(x, 4, "mine nights>10 and home=1;");
        Tests.due("without a home", NONE, x.edge(1, 4, 0, 0));
    }

    /** "by how much OWES is more then (less: below 0)": more, none, less; HOMES, BOND and BIRTH stay. */
    private static void edgeOwes() {
        FiveLands x = new FiveLands();
        x.night(0, 0, 9, 0);
        x.sum(0, 0, 0, 10, 5, 5);
        x.home(0, 1, true);
        x.tie(0, 0, 2);
        x.tie(0, 1, 3);
        Tests.law(x, 0, "mine nights>9;step 0 20;");
        Tests.law(x, 1, "mine home=1;step 0 1;");
        Tests.law(x, 2, "mine bond=1;step 0 2;");
        Tests.law(x, 3, "mine birth=1;step 0 4;");
        Tests.due("owes", 270, x.owes(0, 0));
        Tests.due("less", -200, x.edge(0, 0, 1, 1));
        Tests.law(x, 0, "mine nights<10;step 0 20;");
        Tests.due("more", 200, x.edge(0, 0, 1, 1));
        Tests.law(x, 0, "mine nights<10;");
        Tests.due("as much", 0, x.edge(0, 0, 1, 1));
        Tests.law(x, 0, "mine nights=1;");
        Tests.due("as much too", 0, x.edge(0, 0, 4, 1));
        Tests.due("by nine", 9, x.edge(0, 0, 4, 0));
    }

    /** OWES more and less than ints hold. */
    private static void edgeOwesBeyondInts() {
        FiveLands x = new FiveLands();
        for (int l = 0; l < 6; l++) {
            Tests.law(x, l, (l < 3 ? "mine nights>0" : "mine nights=0") + ";step 0 100;relief no;");
        }
        x.night(0, 0, 0, 0);
        for (int i = 0; i < 12; i++) {
            x.sum(0, 0, 0, 999999, 0, 0);
        }
        Tests.due("four take", 48L * 99999900, x.owes(0, 0));
        Tests.due("two less", -24L * 99999900, x.edge(0, 0, 5, 1));
        Tests.law(x, 0, "mine nights=0;step 0 100;");
        Tests.due("three take", 36L * 99999900, x.owes(0, 0));
        Tests.due("two more", 24L * 99999900, x.edge(0, 0, 1, 1));
    }

    /** "NONE if there is none or one can't be (NONE - 999999999999 for 1 in each case; NONE for another what)". */
    private static void edgeNone() {
        FiveLands x = new FiveLands();
        Tests.law(x, 0, "mine nights>0;");
        x.night(0, 0, 9, 1);
        Tests.due("there is one", 1, x.edge(0, 0, 1, 0));
        Tests.due("that costs nothing", 0, x.edge(0, 0, 1, 1));
        int[][] bad = {{0, 0, 2}, {1, 0, 1}, {0, 1, 0}, {0, 0, 0}, {-1, 0, 1}, {2, 0, 1}, {0, -1, 1}, {0, 6, 1}, {0, 0, -1}, {0, 0, 6},
            {0, 64, 1}, {0, 0, 65}, {MIN, MIN, MIN}, {MAX, MAX, MAX}, {0, MIN, 1}, {0, 0, MAX}};
        for (int[] b : bad) {
            Tests.due("none by 0", NONE, x.edge(b[0], b[1], b[2], 0));
            Tests.due("none by 1", NO_EDGE, x.edge(b[0], b[1], b[2], 1));
            Tests.due("none by 2", NONE, x.edge(b[0], b[1], b[2], 2));
            Tests.due("none by -1", NONE, x.edge(b[0], b[1], b[2], -1));
        }
        for (int what : new int[] {-1, 2, 3, 32, MIN, MAX}) {
            Tests.due("what " + what, NONE, x.edge(0, 0, 1, what));
        }
    }

    /** So many NIGHTS in LAND 2 and in LAND 3, all others are RUBBED OUT: HANGS of LAND 2. */
    private static void hangs(String b, int here, int there, int want) {
        FiveLands x = new FiveLands();
        Tests.law(x, 2, "mine " + b + ";");
        x.night(0, 0, here - 1, 2);
        x.night(0, here, here + there - 1, 3);
        Tests.due("hangs by " + b + " with " + here + " and " + there, want, x.hangs(0, 2));
    }

    /** "if all RUBBED OUT NIGHTS are told": none of them, all of them. */
    private static void hangsOfNoneAndAll() {
        hangs("nights=100", 100, 260, 1);
        hangs("nights=101", 100, 260, 0);
        hangs("nights=101", 100, 259, 2);
        hangs("nights=360", 0, 0, 2);
        hangs("nights=361", 0, 0, 0);
        hangs("nights<361", 0, 0, 1);
        hangs("nights=0", 0, 0, 2);
        hangs("nights<360", 0, 0, 2);
        hangs("nights=360", 360, 0, 1);
        hangs("most=360", 0, 360, 1);
        hangs("1=1", 0, 0, 1);
        hangs("1=2", 0, 0, 0);
    }

    /** "by all ways in which j of them (0 .. all) are in it": also if the first or the last one alone is so, or is not. */
    private static void hangsByTheFirstAndTheLast() {
        hangs("nights=50", 50, 0, 2);
        hangs("not nights=50", 50, 0, 2);
        hangs("nights=360", 50, 0, 2);
        hangs("not nights=360", 50, 0, 2);
        hangs("nights=51", 50, 0, 2);
        hangs("nights=359", 50, 0, 2);
        hangs("nights=49", 50, 0, 0);
        hangs("nights>49 and nights<361", 50, 0, 1);
    }

    /** "and all others in one LAND (any other one)": each of the five, never itself, never two of them. */
    private static void hangsByAnyOtherOne() {
        for (int l = 0; l < 6; l++) {
            for (int other = 0; other < 6; other++) {
                FiveLands x = new FiveLands();
                x.night(0, 0, 299, l);
                x.night(0, 0, 99, other);
                Tests.law(x, l, "mine most=160;");
                Tests.due("60 more in " + other, l == other ? 0 : 2, x.hangs(0, l));
                Tests.law(x, l, "mine most=161;");
                Tests.due("61 more in " + other, 0, x.hangs(0, l));
                Tests.law(x, l, "mine most<160;");
                Tests.due("less than 160 in " + other, l == other ? 1 : 2, x.hangs(0, l));
            }
        }
        hangs("nights=100 and most=130", 100, 0, 0);
        hangs("nights=230 and most=130", 100, 0, 2);
        hangs("nights=229 and most=130", 100, 0, 0);
    }

    /** HOMES, BOND and BIRTH are as they are in all ways. */
    private static void hangsByAllThatIsAsked() {
        FiveLands x = new FiveLands();
        x.home(1, 5, true);
        x.tie(1, 0, 5);
        x.tie(1, 1, 5);
        Tests.law(x, 5, "mine home=1 and bond=1 and birth=1;");
        Tests.due("always", 1, x.hangs(1, 5));
        Tests.due("never in year 0", 0, x.hangs(0, 5));
        Tests.law(x, 5, "mine home=0 or bond=0 or birth=0;");
        Tests.due("never", 0, x.hangs(1, 5));
        Tests.due("always in year 0", 1, x.hangs(0, 5));
        Tests.law(x, 5, "mine nights>0 and home=1 and bond=1 and birth=1;");
        Tests.due("it hangs", 2, x.hangs(1, 5));
    }

    /** "HANGS; NONE if one can't be." */
    private static void hangsThatCantBe() {
        FiveLands x = new FiveLands();
        for (int l : new int[] {-1, 6, 32, 64, MIN, MAX}) {
            Tests.due("land " + l, NONE, x.hangs(0, l));
            Tests.due("year " + l, NONE, x.hangs(l == 32 ? 2 : l, 0));
        }
        Tests.due("the first", 0, x.hangs(0, 0));
        Tests.due("the last", 0, x.hangs(1, 5));
    }

    /** "MOVES 0 .. 19 as they come"; "NONE .. or there are 20". */
    private static void movesTwenty() {
        FiveLands x = new FiveLands();
        for (int k = 0; k < 20; k++) {
            Tests.due("none there yet", NONE, x.best(0, 10 + k));
            Tests.due("move " + k, k, x.move(k, k % 6));
            Tests.due("so many are there", k + 1, x.look(2));
            Tests.due("it is there", 0, x.best(0, 10 + k));
        }
        Tests.due("the 21st", NONE, x.move(0, 0));
        Tests.due("twenty are there", 20, x.look(2));
        Tests.due("none behind them", NONE, x.best(0, 30));
    }

    /** "a NIGHT", "a LAND"; "NONE if one can't be". */
    private static void movesThatCantBe() {
        FiveLands x = new FiveLands();
        for (int n : new int[] {-1, 360, 361, MIN, MAX}) {
            Tests.due("night " + n, NONE, x.move(n, 0));
        }
        for (int l : new int[] {-1, 6, 32, 64, MIN, MAX}) {
            Tests.due("land " + l, NONE, x.move(0, l));
        }
        Tests.due("none came", 0, x.look(2));
        Tests.due("the first night, the last land", 0, x.move(0, 5));
        Tests.due("the last night, the first land", 1, x.move(359, 0));
    }

    /** "from a NIGHT on all are in a LAND": from the first one, from the last one, RUBBED OUT ones too. */
    private static void movesFromANightOn() {
        FiveLands x = new FiveLands();
        Tests.law(x, 0, "take pay nights;");
        Tests.law(x, 1, "take pay nights/4;");
        x.sum(0, 0, 0, 1, 0, 0);
        x.night(0, 0, 49, 1);
        x.move(359, 0);
        x.move(358, 0);
        x.move(300, 0);
        x.move(0, 1);
        x.move(40, 0);
        x.move(0, 2);
        x.move(0, 3);
        x.move(1, 3);
        x.move(5, 3);
        x.move(6, 3);
        Tests.law(x, 3, "take pay nights-300;");
        long[] due = {13, 14, 72, 90, 110, 0, 60, 59, 56, 55};
        for (int k = 0; k < due.length; k++) {
            Tests.due("owes by move " + k, due[k], x.best(0, 10 + k));
        }
        Tests.due("as things are", 12, x.owes(0, 0));
        Tests.due("rubbed out still", 310, x.owes(0, 5));
    }

    /** "HOMES is that LAND alone": not the ones that were there; BOND and BIRTH stay. */
    private static void movesHomesAlone() {
        FiveLands x = new FiveLands();
        for (int l = 0; l < 6; l++) {
            Tests.law(x, l, "mine home=1;step 0 " + (1 << l) + ";");
            x.home(0, l, l < 3);
        }
        x.sum(0, 0, 0, 1, 0, 0);
        Tests.due("three homes", 7, x.owes(0, 0));
        for (int l = 0; l < 6; l++) {
            x.move(359, l);
            Tests.due("a home in " + l + " alone", 1 << l, x.best(0, 10 + l));
        }
        for (int l = 0; l < 6; l++) {
            Tests.law(x, l, "mine bond=1 or birth=1;step 0 " + (1 << l) + ";");
        }
        x.tie(0, 0, 1);
        x.tie(0, 1, 4);
        Tests.due("bond and birth", 18, x.best(0, 15));
        Tests.due("three homes still", 3, x.of(0, 0, 1) + x.of(0, 1, 1) + x.of(0, 2, 1));
    }

    /** "of no MOVE (NONE) and all MOVES": without one. */
    private static void bestOfNone() {
        FiveLands x = new FiveLands();
        Tests.due("none", NONE, x.best(0, 0));
        Tests.due("owes nothing", 0, x.best(0, 1));
        Tests.due("no move 0", NONE, x.best(0, 10));
        Tests.law(x, 0, "take pay 1;");
        x.sum(0, 0, 0, 5, 0, 0);
        Tests.due("still none", NONE, x.best(0, 0));
        Tests.due("owes", 5, x.best(0, 1));
    }

    /** "that with the least OWES; of several NONE, then the first". */
    private static void bestOfSeveral() {
        FiveLands x = new FiveLands();
        Tests.law(x, 0, "take pay 100-nights;");
        x.sum(0, 0, 0, 1, 0, 0);
        x.night(0, 0, 19, 0);
        Tests.due("owes", 80, x.best(0, 1));
        x.move(0, 1);
        Tests.due("more by the first", NONE, x.best(0, 0));
        x.move(359, 2);
        Tests.due("as much by the second", NONE, x.best(0, 0));
        x.move(349, 0);
        Tests.due("less by the third", 2, x.best(0, 0));
        Tests.due("owes less", 69, x.best(0, 1));
        x.move(349, 0);
        Tests.due("as much by the fourth", 2, x.best(0, 0));
        x.move(348, 0);
        Tests.due("one less by the fifth", 4, x.best(0, 0));
        Tests.due("owes one less", 68, x.best(0, 1));
        Tests.due("in year 1 nothing is owed", NONE, x.best(1, 0));
    }

    /** "what 0 the BEST, 1 its OWES, 10 + k .. NONE if there is none such, or another what": also where the first ones owe. */
    private static void bestWhats() {
        FiveLands x = new FiveLands();
        Tests.law(x, 0, "take pay 1;");
        x.sum(0, 0, 0, 5, 0, 0);
        for (int k = 0; k < 20; k++) {
            x.move(k, 0);
            for (int what : new int[] {-1, 2, 3, 8, 9, 11 + k, 12 + k, 30, 32, MIN, MIN + 10, MAX}) {
                Tests.due("what " + what, NONE, x.best(0, what));
            }
            Tests.due("what 10", 5, x.best(0, 10));
            Tests.due("the last one", 5, x.best(0, 10 + k));
        }
    }

    /** "TURNINGS 0 .. 5 as they come"; "NONE .. or there are six". */
    private static void turningsSix() {
        FiveLands x = new FiveLands();
        x.sum(0, 0, 0, 1, 0, 0);
        for (int k = 0; k < 6; k++) {
            Tests.due("turning " + k, k, x.turning(0, k, 0));
            Tests.due("so many are there", k + 1, x.look(3));
        }
        Tests.due("the seventh", NONE, x.turning(0, 0, 0));
        Tests.due("six are there", 6, x.look(3));
    }

    /** "A TURNING .. NONE if one can't be": its SUM (of YEAR 0), LAND and PRICE 0 .. 999999. */
    private static void turningsThatCantBe() {
        FiveLands x = new FiveLands();
        x.sum(1, 0, 0, 1, 0, 0);
        Tests.due("a sum of year 1 alone", NONE, x.turning(0, 0, 0));
        x.sum(0, 0, 0, 1, 0, 0);
        for (int i : new int[] {-1, 1, 2, 12, 32, MIN, MAX}) {
            Tests.due("sum " + i, NONE, x.turning(i, 0, 0));
        }
        for (int l : new int[] {-1, 6, 32, 64, MIN, MAX}) {
            Tests.due("land " + l, NONE, x.turning(0, l, 0));
        }
        for (int p : new int[] {-1, 1000000, 1000001, MIN, MAX}) {
            Tests.due("price " + p, NONE, x.turning(0, 0, p));
        }
        Tests.due("none came", 0, x.look(3));
        Tests.due("the least", 0, x.turning(0, 0, 0));
        Tests.due("the greatest", 1, x.turning(0, 5, 999999));
    }

    /** "a SUM": each of the twelve. */
    private static void turningsOfEachSum() {
        for (int i = 0; i < 12; i++) {
            FiveLands x = new FiveLands();
            Tests.law(x, 0, "take pay 1;");
            for (int k = 0; k <= i; k++) {
                Tests.due("not yet", NONE, x.turning(i, 0, 0));
                x.sum(0, 0, 0, k + 1, 0, 0);
            }
            Tests.due("now", 0, x.turning(i, 0, 0));
            Tests.due("pays", 1, x.sly(0));
            Tests.due("all others are owed", i * (i + 1) / 2, x.sly(1));
        }
    }

    /** Six SUMS of 1 of which LAND 1 takes ten hundredths each, or eleven of the last one. */
    private static FiveLands six() {
        FiveLands x = new FiveLands();
        Tests.law(x, 0, "mine home=1;");
        Tests.law(x, 1, "take pay 10 when in=1;take let 10 when in=1;take gain 10 when in=1;take share 10 when in=1;take pension 10 when in=1;");
        Tests.law(x, 2, "take gain 11 when in=1;");
        x.home(0, 0, true);
        for (int k = 0; k < 5; k++) {
            x.sum(0, k, 0, 1, 1, 1);
        }
        x.sum(0, 2, 0, 1, 2, 2);
        return x;
    }

    /** "of all sets of TURNINGS": none, all. */
    private static void slyOfNoneAndAll() {
        FiveLands x = six();
        Tests.due("none there", 0, x.sly(0));
        Tests.due("owes", 61, x.sly(1));
        for (int k = 0; k < 6; k++) {
            x.turning(k, 3, 0);
            Tests.due("all that are there", (2 << k) - 1, x.sly(0));
            Tests.due("less by each", k == 5 ? 0 : 51 - 10 * k, x.sly(1));
        }
        FiveLands z = six();
        for (int k = 0; k < 6; k++) {
            z.turning(k, k == 5 ? 2 : 1, 1);
        }
        Tests.due("none that pays", 0, z.sly(0));
        Tests.due("owes as it was", 61, z.sly(1));
        Tests.law(z, 0, "mine home=1;step 0 2;");
        z.home(1, 5, true);
        Tests.due("and by those that are his in year 0", 61 + 12, z.sly(1));
        z.home(1, 0, true);
        z.home(0, 0, false);
        Tests.due("not by those of year 1", 61, z.sly(1));
    }

    /** "with at most one for a SUM": of six for one the best one alone. */
    private static void slyOneForASum() {
        FiveLands x = new FiveLands();
        Tests.law(x, 0, "take pay 100;take through 10*pays;");
        Tests.law(x, 1, "take through 5*pays;");
        x.sum(0, 0, 0, 10, 0, 0);
        int[][] turnings = {{0, 0}, {1, 1}, {2, 2}, {1, 0}, {3, 1}, {4, 0}};
        int[] best = {1, 1, 1, 8, 8, 32};
        long[] owes = {100, 100, 100, 50, 50, 0};
        for (int k = 0; k < 6; k++) {
            x.turning(0, turnings[k][0], turnings[k][1]);
            Tests.due("the best of " + (k + 1), best[k], x.sly(0));
            Tests.due("owes by it", owes[k], x.sly(1));
        }
    }

    /** "a PRICE 0 .. 999999 (coin)"; "the least OWES and PRICES together (HUNDREDTHS)": just dearer, as dear, just cheaper. */
    private static void slyPrices() {
        FiveLands x = new FiveLands();
        Tests.law(x, 0, "take pay 100;");
        x.sum(0, 0, 0, 999999, 0, 0);
        x.turning(0, 1, 999999);
        Tests.due("as dear as none", 0, x.sly(0));
        x.turning(0, 1, 999998);
        Tests.due("a coin cheaper", 2, x.sly(0));
        Tests.due("owes the price", 99999800, x.sly(1));
        FiveLands z = new FiveLands();
        Tests.law(z, 0, "take pay 1;");
        z.sum(0, 0, 0, 101, 0, 0);
        z.turning(0, 1, 2);
        Tests.due("99 hundredths dearer", 0, z.sly(0));
        z.turning(0, 1, 1);
        Tests.due("one hundredth cheaper", 2, z.sly(0));
        Tests.due("owes a coin", 100, z.sly(1));
        FiveLands w = new FiveLands();
        for (int l = 0; l < 6; l++) {
            Tests.law(w, l, "take pay 100;");
        }
        for (int i = 0; i < 12; i++) {
            w.sum(0, 0, 0, 999999, 0, 0);
        }
        for (int i = 0; i < 6; i++) {
            w.turning(i, 0, 999999);
        }
        Tests.due("all of them", 63, w.sly(0));
        Tests.due("more than ints hold", 42L * 99999900, w.sly(1));
    }

    /** "of several the least as a number". */
    private static void slyLeastSet() {
        FiveLands x = six();
        x.turning(1, 3, 0);
        x.turning(1, 4, 0);
        x.turning(0, 4, 0);
        x.turning(0, 3, 0);
        Tests.due("the first of each", 5, x.sly(0));
        FiveLands z = new FiveLands();
        z.sum(0, 0, 0, 1, 0, 0);
        z.turning(0, 1, 0);
        Tests.due("none is less than one", 0, z.sly(0));
    }

    /** "a SUM becomes of KIND through (its REAL one stays), its PAYER and its SOURCE a told LAND". */
    private static void slyRealStays() {
        for (int kind = 0; kind < 6; kind++) {
            FiveLands x = new FiveLands();
            Tests.law(x, 0, "mine 1=1;");
            Tests.law(x, 1, "take through 1;take " + KINDS[kind] + " 50;take pension 3*in+4*pays;");
            x.sum(0, kind, 4, 1, 1, 1);
            x.turning(0, 2, 0);
            Tests.due("by one that doesn't look", 1, x.sly(1));
            Tests.pact(x, 0, 1, "look;");
            Tests.due("by one that looks", kind == 5 ? 0 : 50, x.sly(1));
            Tests.due("pays by it", kind == 5 ? 1 : 0, x.sly(0));
        }
        FiveLands z = new FiveLands();
        Tests.law(z, 0, "mine 1=1;");
        Tests.law(z, 1, "take pay 50;take through 3*in+4*pays;");
        z.sum(0, 0, 0, 1, 2, 2);
        z.turning(0, 1, 0);
        Tests.due("from and paid by the told land", 7, z.sly(1));
        Tests.due("as things are", 50, z.owes(0, 0));
    }

    /** "NONE for another what." */
    private static void slyWhats() {
        FiveLands x = six();
        x.turning(0, 3, 0);
        for (int what : new int[] {-1, 2, 3, 10, 32, MIN, MAX}) {
            Tests.due("what " + what, NONE, x.sly(what));
        }
        Tests.due("what 0", 1, x.sly(0));
        Tests.due("what 1", 51, x.sly(1));
    }

    /** "WORDS 0 .. 5 as they come"; "NONE .. or there are six". */
    private static void wordsSix() {
        FiveLands x = new FiveLands();
        for (int k = 0; k < 6; k++) {
            Tests.due("word " + k, k, x.word(0, 1, k % 5, k));
            Tests.due("so many are there", k + 1, x.look(4));
        }
        Tests.due("the seventh", NONE, x.word(0, 1, 0, 0));
        Tests.due("six are there", 6, x.look(4));
    }

    /** "NONE if one can't be (sort 0 .. 4; K 0 .. 5, for 1 and 2 alone)"; "the PACT of two LANDS". */
    private static void wordsThatCantBe() {
        FiveLands x = new FiveLands();
        for (int l : new int[] {-1, 6, 32, 64, MIN, MAX}) {
            Tests.due("land " + l, NONE, x.word(l, 0, 0, 0));
            Tests.due("with land " + l, NONE, x.word(0, l, 0, 0));
        }
        for (int l = 0; l < 6; l++) {
            Tests.due("one land", NONE, x.word(l, l, 0, 0));
        }
        for (int sort : new int[] {-1, 5, 6, 32, MIN, MAX}) {
            Tests.due("sort " + sort, NONE, x.word(0, 1, sort, 0));
        }
        for (int kind : new int[] {-1, 6, 7, 32, MIN, MAX}) {
            Tests.due("only " + kind, NONE, x.word(0, 1, 1, kind));
            Tests.due("top " + kind, NONE, x.word(0, 1, 2, kind));
        }
        Tests.due("none came", 0, x.look(4));
        Tests.due("only of the first", 0, x.word(0, 1, 1, 0));
        Tests.due("only of the last", 1, x.word(4, 5, 1, 5));
        Tests.due("top of the first", 2, x.word(0, 5, 2, 0));
        Tests.due("top of the last", 3, x.word(5, 0, 2, 5));
    }

    /** "K .. for 1 and 2 alone". */
    private static void wordsKindNotAsked() {
        for (int kind : new int[] {-1, 6, MIN, MAX, 0}) {
            FiveLands x = new FiveLands();
            Tests.due("look", 0, x.word(0, 1, 0, kind));
            Tests.due("relief off", 1, x.word(0, 1, 3, kind));
            Tests.due("relief free", 2, x.word(0, 1, 4, kind));
            Tests.due("they hold", 0, x.mend());
        }
    }

    /** "NONE if there is none"; the set of none. */
    private static void mendOfNone() {
        FiveLands x = new FiveLands();
        Tests.due("nothing to mend", 0, x.mend());
        x = six();
        x.word(0, 1, 2, 0);
        Tests.due("no turnings", 0, x.mend());
        x.turning(1, 3, 0);
        Tests.due("a gap that no word closes", NONE, x.mend());
        FiveLands z = six();
        z.turning(0, 3, 0);
        Tests.due("a gap, and no words", NONE, z.mend());
    }

    /** "the fewest WORDS": all six, if each is needed. */
    private static void mendOfAll() {
        FiveLands x = six();
        for (int k = 0; k < 6; k++) {
            x.turning(k, 3, 0);
        }
        for (int k = 0; k < 5; k++) {
            x.word(0, 1, 1 + k % 2, k);
            Tests.due("one is lacking", NONE, x.mend());
        }
        x.word(0, 2, 2, 2);
        Tests.due("all six", 63, x.mend());
        Tests.due("as things are they don't hold", 61, x.owes(0, 0));
    }

    /** "(of several the least set)": one before two, and the least of those as few. */
    private static void mendFewest() {
        FiveLands x = six();
        x.turning(0, 3, 0);
        x.turning(1, 3, 0);
        x.word(0, 1, 2, 0);
        x.word(0, 1, 2, 1);
        Tests.due("two", 3, x.mend());
        x.word(0, 1, 1, 0);
        x.word(0, 1, 1, 1);
        Tests.due("the least two", 3, x.mend());
        Tests.law(x, 0, "mine home=1;step 0 10;");
        Tests.due("two still", 3, x.mend());
        x.word(0, 1, 3, 0);
        Tests.due("one is fewer, though it is a greater set", 16, x.mend());
        x.word(0, 1, 3, 0);
        Tests.due("the least one", 16, x.mend());
    }

    /** "no set of TURNINGS owes less with PRICES than none": as much is not less. */
    private static void mendClosesJust() {
        FiveLands x = new FiveLands();
        Tests.law(x, 0, "mine 1=1;");
        Tests.law(x, 1, "take pay 100;");
        x.sum(0, 0, 0, 7, 1, 1);
        x.turning(0, 2, 7);
        Tests.due("as dear", 0, x.mend());
        x.turning(0, 2, 8);
        Tests.due("dearer", 0, x.mend());
        x.turning(0, 2, 6);
        Tests.due("cheaper", NONE, x.mend());
        x.word(0, 1, 2, 0);
        Tests.due("closed", 1, x.mend());
        FiveLands z = new FiveLands();
        Tests.law(z, 1, "take pay 1;");
        z.sum(0, 0, 0, 999999, 1, 1);
        z.turning(0, 2, 9999);
        Tests.due("99 hundredths cheaper", NONE, z.mend());
    }

    /** "and YEAR 1 owes no more than without WORDS": as much is no more, one hundredth is. */
    private static void mendHonestJust() {
        FiveLands x = new FiveLands();
        Tests.law(x, 0, "mine home=1;");
        x.home(0, 0, true);
        x.home(1, 0, true);
        x.sum(0, 0, 0, 1, 1, 1);
        x.turning(0, 3, 0);
        x.word(0, 1, 0, 0);
        x.sum(1, 5, 1, 1, 4, 4);
        int[] lets = {0, 4, 5, 6, 100};
        for (int let : lets) {
            Tests.law(x, 1, "take pay 10;take through 5;take let " + let + ";");
            Tests.due("seen as let: from 5 to " + let, let > 5 ? NONE : 1, x.mend());
        }
        Tests.due("as things are", 5, x.owes(1, 0));
    }

    /** Each YEAR by those that are HIS in it: a WORD that closes the gap of YEAR 0, and costs YEAR 1 more by another LAND. */
    private static void mendOfBothYears() {
        FiveLands x = new FiveLands();
        Tests.law(x, 0, "mine home=1;step 0 30;");
        Tests.law(x, 1, "mine home=1;step 0 20;relief free;take pay 30 when in=1;");
        x.home(0, 0, true);
        x.home(1, 1, true);
        x.sum(0, 0, 0, 100, 1, 1);
        x.turning(0, 3, 0);
        x.word(0, 1, 3, 0);
        Tests.due("closed", 1, x.mend());
        x.sum(1, 0, 0, 100, 0, 0);
        Tests.due("year 1 is no more freed by it", NONE, x.mend());
        Tests.due("as things are it owes nothing", 0, x.owes(1, 0));
        Tests.law(x, 1, "mine home=1;take pay 30 when in=1;");
        Tests.due("without steps it owes nothing either way", 1, x.mend());
    }

    /** "(in place of a relief told there; of two the later WORD)": off in place of free, free in place of off. */
    private static void mendLaterWord() {
        FiveLands x = six();
        Tests.law(x, 0, "mine home=1;step 0 30;");
        Tests.law(x, 1, "");
        Tests.pact(x, 0, 3, "relief free;");
        x.turning(0, 3, 0);
        Tests.due("a gap by one that is freed", NONE, x.mend());
        x.word(0, 3, 4, 0);
        Tests.due("free is told already", NONE, x.mend());
        x.word(0, 3, 3, 0);
        Tests.due("off in its place", 2, x.mend());
        x.word(0, 3, 4, 0);
        Tests.due("off without the later one", 2, x.mend());
        Tests.pact(x, 0, 3, "relief off;");
        Tests.due("off is told: no gap", 0, x.mend());
        FiveLands z = six();
        Tests.law(z, 0, "mine home=1;step 0 30;");
        Tests.law(z, 1, "take pay 35 when in=1;");
        Tests.pact(z, 0, 1, "relief off;");
        z.turning(0, 3, 0);
        z.word(0, 1, 3, 0);
        Tests.due("a gap of five, and off is told already", NONE, z.mend());
        Tests.law(z, 1, "take pay 40;take through 10;");
        Tests.due("40 straight, 30 when turned", NONE, z.mend());
        z.word(1, 0, 2, 0);
        Tests.due("top 0 closes it", 2, z.mend());
        FiveLands w = six();
        Tests.law(w, 0, "mine home=1;step 0 30;relief no;");
        Tests.law(w, 1, "take pay 20 when in=1;");
        w.turning(0, 3, 0);
        w.word(0, 1, 4, 0);
        Tests.due("free in place of what the law tells", 1, w.mend());
    }

    /** "for a KIND 0 .. 4": not through. */
    private static void roundKinds() {
        FiveLands x = new FiveLands();
        Tests.law(x, 0, "take pay 1;take let 2;take gain 3;take share 4;take pension 5;take through 6;");
        for (int kind = 0; kind < 5; kind++) {
            Tests.due("kind " + kind, kind + 1, x.round(kind, 0, 1, 0));
        }
        for (int kind : new int[] {-1, 5, 6, 32, MIN, MAX}) {
            for (int what = 0; what < 3; what++) {
                Tests.due("kind " + kind, NONE, x.round(kind, 0, 1, what));
            }
        }
    }

    /** "NONE if one can't be (SOURCE and end alike)". */
    private static void roundLands() {
        FiveLands x = new FiveLands();
        for (int a = 0; a < 6; a++) {
            for (int b = 0; b < 6; b++) {
                Tests.due("from " + a + " to " + b, a == b ? NONE : 0, x.round(0, a, b, 0));
            }
        }
        for (int l : new int[] {-1, 6, 32, 64, MIN, MAX}) {
            Tests.due("from " + l, NONE, x.round(0, l, 1, 0));
            Tests.due("to " + l, NONE, x.round(0, 1, l, 0));
            Tests.due("both " + l, NONE, x.round(0, l, l, 0));
        }
    }

    /** "E of its first line take of that KIND that holds (cut to 0 .. 100; 0 without one)". */
    private static void roundCut() {
        FiveLands x = new FiveLands();
        Tests.due("no law", 0, x.round(0, 5, 0, 0));
        Tests.law(x, 5, "take pay 0-1;take let 100;take gain 101;take share 7 when in=0;take share 8 when in=1;take share 9;");
        Tests.due("below 0", 0, x.round(0, 5, 0, 0));
        Tests.due("100", 100, x.round(1, 5, 0, 0));
        Tests.due("above 100", 100, x.round(2, 5, 0, 0));
        Tests.due("the first that holds", 8, x.round(3, 5, 0, 0));
        Tests.due("none of the kind", 0, x.round(4, 5, 0, 0));
    }

    /** "0 by only, at most top of the PACT of both": not of any other PACT. */
    private static void roundOnlyAndTop() {
        FiveLands x = new FiveLands();
        Tests.law(x, 1, "take pay 50;take let 50;");
        Tests.pact(x, 1, 2, "top pay 49;only let;");
        Tests.pact(x, 1, 3, "top pay 50;top let 0;");
        Tests.pact(x, 0, 1, "top pay 100;only pay;");
        Tests.due("one below", 49, x.round(0, 1, 2, 0));
        Tests.due("only", 0, x.round(1, 1, 2, 0));
        Tests.due("as much", 50, x.round(0, 1, 3, 0));
        Tests.due("top 0", 0, x.round(1, 1, 3, 0));
        Tests.due("only, beside a top", 0, x.round(0, 1, 0, 0));
        Tests.due("no pact", 50, x.round(0, 1, 4, 0));
        Tests.due("the other one has no law", 0, x.round(0, 2, 1, 0));
    }

    /** "The best third LAND .. of several the least; less than straight, else NONE." */
    private static void roundThird() {
        FiveLands x = new FiveLands();
        Tests.law(x, 1, "take pay 10;");
        for (int l : new int[] {5, 4, 3, 0}) {
            Tests.due("none is less yet", l == 5 ? NONE : l == 4 ? 5 : l == 3 ? 4 : 3, x.round(0, 1, 2, 1));
            Tests.pact(x, Math.min(l, 1), Math.max(l, 1), "top pay 9;");
            Tests.due("the least of several", l, x.round(0, 1, 2, 1));
            Tests.due("costs", 9, x.round(0, 1, 2, 2));
        }
        Tests.law(x, 0, "take pay 1;");
        Tests.due("as dear as straight", 3, x.round(0, 1, 2, 1));
        for (int l : new int[] {3, 4, 5}) {
            Tests.law(x, l, "take pay 1;");
        }
        Tests.due("all are as dear", NONE, x.round(0, 1, 2, 1));
        Tests.due("straight then", 10, x.round(0, 1, 2, 2));
        Tests.pact(x, 2, 5, "top pay 0;");
        Tests.due("one cheaper: the last", 5, x.round(0, 1, 2, 1));
        Tests.pact(x, 1, 2, "only pay;");
        Tests.due("straight is nothing", NONE, x.round(0, 1, 2, 1));
        Tests.due("costs nothing", 0, x.round(0, 1, 2, 2));
        FiveLands z = new FiveLands();
        Tests.law(z, 0, "take pay 100;");
        Tests.law(z, 1, "take pay 100;");
        Tests.pact(z, 0, 1, "top pay 99;");
        for (int l = 2; l < 6; l++) {
            Tests.law(z, l, "take pay 100;");
        }
        Tests.due("both ways of 100 are 200", NONE, z.round(0, 0, 5, 1));
        Tests.due("straight", 100, z.round(0, 0, 5, 2));
    }

    /** "for in 1, pays 1, amount 100, nights and all others 0": also behind calls that asked others. */
    private static void roundAsked() {
        FiveLands x = new FiveLands();
        x.night(0, 0, 359, 0);
        x.home(0, 0, true);
        x.tie(0, 0, 0);
        x.tie(0, 1, 0);
        x.night(1, 0, 359, 1);
        x.sum(0, 0, 0, 7, 1, 1);
        Tests.law(x, 0, "take pay 10*in+20*pays+amount-100+nights+home+bond+birth+most;take let 5 when in=1 and pays=1 and amount=100;"
            + "take gain 6 when nights=0 and home=0 and bond=0 and birth=0 and most=0;");
        Tests.due("as the year asks", 7 * 100, x.owes(0, 0));
        Tests.due("30", 30, x.round(0, 0, 1, 0));
        Tests.due("5", 5, x.round(1, 0, 1, 0));
        Tests.due("6", 6, x.round(2, 0, 1, 0));
        x.owes(1, 0);
        x.mend();
        Tests.due("30 again", 30, x.round(0, 0, 1, 0));
    }

    /** "what 0 straight, 1 the third LAND (NONE), 2 what it is by that (straight without one) .. another what". */
    private static void roundWhats() {
        FiveLands x = new FiveLands();
        Tests.law(x, 0, "take pay 10;");
        Tests.due("straight", 10, x.round(0, 0, 1, 0));
        Tests.due("no third", NONE, x.round(0, 0, 1, 1));
        Tests.due("straight without one", 10, x.round(0, 0, 1, 2));
        Tests.pact(x, 0, 4, "top pay 3;");
        Tests.due("straight still", 10, x.round(0, 0, 1, 0));
        Tests.due("by 4", 4, x.round(0, 0, 1, 1));
        Tests.due("costs", 3, x.round(0, 0, 1, 2));
        for (int what : new int[] {-1, 3, 4, 32, MIN, MAX}) {
            Tests.due("what " + what, NONE, x.round(0, 0, 1, what));
        }
    }

    /** "ANSWERS told 0 .. 9"; "NONE .. or there are ten". */
    private static void answersTen() {
        FiveLands x = new FiveLands();
        x.sum(0, 0, 0, 1, 0, 0);
        for (int k = 0; k < 10; k++) {
            Tests.due("answer " + k, k, x.answer(k % 3, 0, 0, 0));
            Tests.due("so many are there", k + 1, x.look(5));
        }
        for (int sort = 0; sort < 3; sort++) {
            Tests.due("the eleventh", NONE, x.answer(sort, 0, 0, 0));
        }
        Tests.due("ten are there", 10, x.look(5));
    }

    /** "(sort 0, v 0 or 1)"; "NONE if one can't be (i a SUM for sort 1 ..)". */
    private static void answersThatCantBe() {
        FiveLands x = new FiveLands();
        x.sum(1, 0, 0, 1, 0, 0);
        Tests.due("no sum of year 0", NONE, x.answer(1, 0, 0, 0));
        x.sum(0, 0, 0, 1, 0, 0);
        x.sum(0, 0, 0, 1, 0, 0);
        for (int sort : new int[] {-1, 3, 4, 32, MIN, MAX}) {
            Tests.due("sort " + sort, NONE, x.answer(sort, 0, 0, 0));
        }
        for (int l : new int[] {-1, 6, 32, 64, MIN, MAX}) {
            Tests.due("his of " + l, NONE, x.answer(0, l, 0, 0));
            Tests.due("taken by " + l, NONE, x.answer(1, l, 0, 0));
        }
        for (int i : new int[] {-1, 2, 3, 12, 32, MIN, MAX}) {
            Tests.due("sum " + i, NONE, x.answer(1, 0, i, 0));
        }
        for (long v : new long[] {-1, 2, 1L << 32, (1L << 32) + 1, 1L << 63, Long.MAX_VALUE}) {
            Tests.due("his " + v, NONE, x.answer(0, 0, 0, v));
        }
        Tests.due("none came", 0, x.look(5));
        Tests.due("not his", 0, x.answer(0, 0, 0, 0));
        Tests.due("his", 1, x.answer(0, 5, 0, 1));
        Tests.due("taken of the last sum", 2, x.answer(1, 5, 1, 0));
    }

    /** "(i .. for sort 1, else not asked; LAND not asked for 2)"; v is as long as may be for TAKEN and OWES. */
    private static void answersNotAsked() {
        FiveLands x = new FiveLands();
        int n = 0;
        for (int i : new int[] {-1, 0, 12, MIN, MAX}) {
            Tests.due("sum " + i + " for his", n++, x.answer(0, 3, i, 0));
        }
        Tests.due("all are right", NONE, x.judged());
        for (int l : new int[] {-1, 6, MIN, MAX}) {
            Tests.due("land " + l + " and sum for owes", n++, x.answer(2, l, l, 0));
        }
        Tests.due("all are right still", NONE, x.judged());
        Tests.due("the least owes", n, x.answer(2, 0, 0, Long.MIN_VALUE));
        Tests.due("is wrong", n, x.judged());
    }

    /** "NONE: all are right": with none told, with ten. */
    private static void judgedNone() {
        FiveLands x = new FiveLands();
        Tests.due("none told", NONE, x.judged());
        FiveLands z = new FiveLands();
        Tests.law(z, 5, "mine 1=1;");
        z.answer(0, 5, 0, 1);
        z.answer(0, 4, 0, 0);
        Tests.due("his and not his", NONE, z.judged());
        x.sum(0, 0, 0, 1, 0, 0);
        for (int k = 0; k < 10; k++) {
            x.answer(k % 3, k % 6, 0, 0);
            Tests.due("all right", NONE, x.judged());
        }
    }

    /** "the first that is wrong as things are": each of ten, by the SUM, the LAND and the sort that it tells. */
    private static void judgedFirstWrong() {
        for (int wrong = 0; wrong < 10; wrong++) {
            FiveLands x = new FiveLands();
            Tests.law(x, 5, "mine home=1;take pay amount;take let 1;");
            Tests.law(x, 4, "take let 2;");
            for (int i = 0; i < 12; i++) {
                x.sum(0, i == 11 ? 1 : 0, 0, i + 1, 0, 0);
            }
            long[][] right = {{2, 0, 0, 542}, {1, 5, 10, 121}, {1, 5, 11, 12}, {1, 4, 11, 24}, {1, 4, 10, 0}, {1, 5, 0, 1}, {0, 5, 0, 0},
                {0, 0, 0, 0}, {1, 5, 3, 16}, {2, 9, 9, 542}};
            for (int k = 0; k < 10; k++) {
                long v = k < wrong ? right[k][3] : right[k][0] == 0 ? 1 - right[k][3] : right[k][3] + 1;
                x.answer((int) right[k][0], (int) right[k][1], (int) right[k][2], v);
            }
            Tests.due("the first wrong one", wrong, x.judged());
        }
        FiveLands z = new FiveLands();
        Tests.law(z, 0, "mine home=1;");
        z.answer(0, 0, 0, 0);
        Tests.due("right as things are", NONE, z.judged());
        z.home(0, 0, true);
        Tests.due("wrong as things are now", 0, z.judged());
        z.home(0, 0, false);
        z.home(1, 0, true);
        Tests.due("right again: year 1 is not asked", NONE, z.judged());
    }

    /** "that a LAND is HIS", "TAKEN": not that it SAYS so, nor AHEAD. */
    private static void judgedByHisAndTaken() {
        FiveLands x = new FiveLands();
        Tests.law(x, 0, "mine 1=1;step 0 30;relief off;");
        Tests.law(x, 1, "mine 1=1;take pay 20;");
        Tests.pact(x, 0, 1, "test home;");
        x.home(0, 0, true);
        x.sum(0, 0, 0, 10, 1, 1);
        x.answer(0, 1, 0, 0);
        x.answer(1, 0, 0, 100);
        x.answer(1, 1, 0, 200);
        x.answer(2, 0, 0, 300);
        Tests.due("all right", NONE, x.judged());
        x.home(0, 1, true);
        Tests.due("both are then", 0, x.judged());
        x.home(0, 1, false);
        x.answer(1, 0, 0, 300);
        Tests.due("that is AHEAD", 4, x.judged());
        x.home(0, 0, false);
        x.home(0, 1, true);
        Tests.due("1 is his", 0, x.judged());
    }

    /** v is judged by all of it, not by what an int would hold of it. */
    private static void judgedByAllOfV() {
        FiveLands x = new FiveLands();
        for (int l = 0; l < 6; l++) {
            Tests.law(x, l, "mine 1=1;step 0 100;");
        }
        for (int i = 0; i < 12; i++) {
            x.sum(0, 0, 0, 999999, 0, 0);
        }
        x.answer(2, 0, 0, 72L * 99999900);
        x.answer(1, 5, 11, 99999900);
        Tests.due("right", NONE, x.judged());
        x.answer(1, 5, 11, 99999900 + (1L << 32));
        Tests.due("wrong by the upper half", 2, x.judged());
        FiveLands z = new FiveLands();
        z.answer(2, 0, 0, 1L << 32);
        Tests.due("owes 0, not 2 to the 32", 0, z.judged());
    }

    /** "What 0 .. 5. NONE for another what." */
    private static void looks() {
        FiveLands x = new FiveLands();
        for (int what = 0; what < 6; what++) {
            Tests.due("none at first", 0, x.look(what));
        }
        for (int i = 0; i < 21; i++) {
            x.sum(0, 0, 0, 1, 0, 0);
            x.sum(1, 0, 0, 1, 0, 0);
            x.move(0, 0);
            x.turning(0, 0, 0);
            x.word(0, 1, 0, 0);
            x.answer(2, 0, 0, 0);
        }
        int[] most = {12, 12, 20, 6, 6, 10};
        for (int what = 0; what < 6; what++) {
            Tests.due("at most", most[what], x.look(what));
        }
        for (int what : new int[] {-1, 6, 7, 32, MIN, MAX}) {
            Tests.due("what " + what, NONE, x.look(what));
        }
    }
}
