/** The boundary cases of Term 2 and of promises 6 to 9: one test for each sentence that names one. */
public final class BoundsTextTest {
    private static final int NONE = FiveLands.NONE;
    private static final int MIN = Integer.MIN_VALUE;
    private static final int MAX = Integer.MAX_VALUE;
    /** The greatest int, by NUMBERS of six digits. */
    private static final String GREATEST = "999999*2147+485794";
    private static final String LEAST = "0-999999*2147-485794-1";

    public static void main(String[] args) {
        feedTo600();
        feedRefused();
        feedHighestFirst();
        feedAllBytes();
        endFirstAndLast();
        endCutsTokens();
        endRefused();
        textOfNothing();
        textLands();
        textOrder();
        textLines();
        textEmptiesTheTape();
        textStaysAfterFault();
        textOftenTold();
        faultWhats();
        faultOfNone();
        faultOfTheLatest();
        faultAtTheEnd();
        faultFirstByPlace();
        faultLeastAtOnePlace();
        linesTwenty();
        linesTwentyOfPacts();
        onceInLaws();
        onceInPacts();
        onceOfEachKind();
        openEight();
        openIsWhatIsNotClosed();
        partsBy0();
        partsTo100();
        stepsRise();
        freeNumbers();
        numbersOfSixDigits();
        letters();
        digits();
        signs();
        blanks();
        wordsOfOtherTexts();
        sumsWrap();
        productsWrap();
        comparedWithoutWrap();
        quotientsTowards0();
        leftToRight();
        askedForMine();
        Tests.finish();
    }

    /** "Twenty bytes come behind the TAPE .. how many it has": up to 600. */
    private static void feedTo600() {
        FiveLands x = new FiveLands();
        for (int n = 20; n <= 600; n += 20) {
            Tests.due("bytes", n, x.feed(0, 0, 0, 0, 0));
        }
        Tests.due("601 and more", NONE, x.feed(0, 0, 0, 0, 0));
        Tests.yes("600 are there", x.end(600));
        Tests.yes("all but 20", x.end(580));
        Tests.due("just 600 again", 600, x.feed(0, 0, 0, 0, 0));
        Tests.yes("one more than 580", x.end(581));
        Tests.due("601", NONE, x.feed(0, 0, 0, 0, 0));
        Tests.yes("one less than 580", x.end(579));
        Tests.due("599", 599, x.feed(0, 0, 0, 0, 0));
        Tests.due("619", NONE, x.feed(0, 0, 0, 0, 0));
    }

    /** "NONE, and nothing comes, if there would be more than 600." */
    private static void feedRefused() {
        FiveLands x = new FiveLands();
        Tests.tape(x, "mine 1=1;" + " ".repeat(591));
        Tests.due("full", NONE, x.feed(MIN, MAX, -1, 0, 0x6d696e65));
        Tests.no("nothing came", x.end(601));
        Tests.due("the text is as it was", 1, x.text(0, NONE));
        Tests.due("and holds", 1, x.of(0, 0, 5));
        Tests.due("the tape is empty then", 20, x.feed(0, 0, 0, 0, 0));
        FiveLands z = new FiveLands();
        Tests.tape(z, "free 7;" + " ".repeat(574));
        Tests.due("at 581", NONE, z.feed(-1, -1, -1, -1, -1));
        Tests.yes("581 are there", z.end(581));
        Tests.no("not one more", z.end(582));
        Tests.due("no byte of it came", 1, z.text(0, NONE));
    }

    /** "of each number the highest first": each of the twenty places. */
    private static void feedHighestFirst() {
        for (int place = 0; place < 20; place++) {
            int[] n = new int[5];
            java.util.Arrays.fill(n, 0x20202020);
            n[place / 4] = n[place / 4] & ~(255 << 24 - place % 4 * 8) | '!' << 24 - place % 4 * 8;
            FiveLands x = new FiveLands();
            x.feed(n[0], n[1], n[2], n[3], n[4]);
            Tests.due("a sign that can't be", NONE, x.text(0, NONE));
            Tests.due("stands there", place, x.fault(1));
        }
    }

    /** "bytes": 0 to 255, the upper half too, though they make the number wrap below 0. */
    private static void feedAllBytes() {
        for (int c = 0; c < 256; c++) {
            FiveLands x = new FiveLands();
            x.feed(c << 24 | 0x202020, 0x20202020, 0x20202020, 0x20202020, 0x20202020);
            boolean blank = c == 32 || c == 10;
            Tests.due("byte " + c, blank ? 0 : NONE, x.text(0, NONE));
            Tests.due("fault of byte " + c, blank ? 0 : 1, x.fault(0));
            Tests.due("place of byte " + c, blank ? NONE : 0, x.fault(1));
        }
    }

    /** "The TAPE has its first n bytes alone": none, all. */
    private static void endFirstAndLast() {
        FiveLands x = new FiveLands();
        Tests.yes("none of none", x.end(0));
        x.feed(1, 2, 3, 4, 5);
        Tests.yes("all", x.end(20));
        Tests.due("forty", 40, x.feed(1, 2, 3, 4, 5));
        Tests.yes("all but one", x.end(39));
        Tests.yes("all again", x.end(39));
        Tests.yes("one", x.end(1));
        Tests.due("one and twenty", 21, x.feed(1, 2, 3, 4, 5));
        Tests.yes("none", x.end(0));
        Tests.due("twenty", 20, x.feed(1, 2, 3, 4, 5));
    }

    /** "its first n bytes alone": what stood behind them ends no token, and makes none longer. */
    private static void endCutsTokens() {
        FiveLands x = new FiveLands();
        Tests.tape(x, "freezing 1234567;");
        x.end(4);
        x.text(0, NONE);
        Tests.due("free: the end can't stand there", 4, x.fault(1));
        Tests.tape(x, "free 1234567;");
        x.end(11);
        x.text(0, NONE);
        Tests.due("free 123456: the end can't stand there", 11, x.fault(1));
        Tests.tape(x, "step 0 1007;");
        x.end(10);
        x.text(0, NONE);
        Tests.due("step 0 100: the end can't stand there", 10, x.fault(1));
        Tests.tape(x, "mine 1=1;free 1;");
        x.end(9);
        Tests.due("one line", 1, x.text(0, NONE));
    }

    /** "false, changing nothing, if it has not so many, or n is below 0." */
    private static void endRefused() {
        FiveLands x = new FiveLands();
        Tests.no("one of none", x.end(1));
        Tests.no("below 0", x.end(-1));
        Tests.tape(x, "mine 1=1;free");
        for (int n : new int[] {14, 15, 20, 600, 601, MAX, -1, -13, MIN}) {
            Tests.no("end(" + n + ")", x.end(n));
        }
        Tests.due("33 bytes then", 33, x.feed(0x20353b20, 0x20202020, 0x20202020, 0x20202020, 0x20202020));
        Tests.due("nothing is changed", 2, x.text(3, NONE));
    }

    /** "The TAPE, empty then": an empty TAPE is an empty TEXT. */
    private static void textOfNothing() {
        FiveLands x = new FiveLands();
        Tests.due("an empty law", 0, x.text(0, NONE));
        Tests.due("an empty pact", 0, x.text(0, 1));
        Tests.due("a law", 1, Tests.law(x, 0, "mine 1=1;"));
        Tests.due("says so", 1, x.of(0, 0, 5));
        Tests.due("an empty law again", 0, x.text(0, NONE));
        Tests.due("says nothing", 0, x.of(0, 0, 5));
        Tests.due("no fault", 0, x.fault(0));
        Tests.due("nor a place", NONE, x.fault(1));
    }

    /** "the LAW of a LAND (b NONE), or the PACT of LANDS a and b .. NONE: no such one (fault() tells 0)". */
    private static void textLands() {
        int[] bad = {NONE, -2, 6, 7, 32, 64, 256, MIN, MAX};
        for (int l : bad) {
            noSuch(l, NONE);
            noSuch(l, 5);
            noSuch(0, l == NONE ? 6 : l);
        }
        FiveLands x = new FiveLands();
        for (int l = 0; l < 6; l++) {
            Tests.due("law of " + l, 1, Tests.law(x, l, "mine 1=1;"));
            Tests.due("only of those", (2 << l) - 1, x.owes(0, 3));
        }
    }

    /** "(a below b)": all fifteen, and none the other way round. */
    private static void textOrder() {
        for (int a = 0; a < 6; a++) {
            for (int b = 0; b < 6; b++) {
                if (a < b) {
                    pactOf(a, b);
                } else {
                    noSuch(a, b);
                }
            }
        }
    }

    private static void noSuch(int a, int b) {
        FiveLands x = new FiveLands();
        Tests.law(x, 0, "free free;");
        Tests.tape(x, "look;");
        Tests.due("text(" + a + "," + b + ")", NONE, x.text(a, b));
        Tests.due("fault of text(" + a + "," + b + ")", 0, x.fault(0));
        Tests.due("place of text(" + a + "," + b + ")", NONE, x.fault(1));
        Tests.no("the tape is empty after text(" + a + "," + b + ")", x.end(1));
    }

    private static void pactOf(int a, int b) {
        FiveLands x = new FiveLands();
        for (int l = 0; l < 6; l++) {
            Tests.law(x, l, "take pay 50;");
        }
        Tests.due("pact of " + a + " and " + b, 1, Tests.pact(x, a, b, "top pay 7;"));
        for (int k = 0; k < 6; k++) {
            for (int l = k + 1; l < 6; l++) {
                boolean these = k == a && l == b;
                Tests.due("top of " + k + " and " + l, these ? 7 : 50, x.round(0, k, l, 0));
                Tests.due("and back", these ? 7 : 50, x.round(0, l, k, 0));
            }
        }
    }

    /** "how many lines": 0 to 20. */
    private static void textLines() {
        FiveLands x = new FiveLands();
        for (int n = 0; n <= 20; n++) {
            Tests.due(n + " lines of a law", n, Tests.law(x, 0, "mine 1=1;".repeat(n)));
            Tests.due(n + " lines of a pact", n, Tests.pact(x, 0, 1, "test home;".repeat(n)));
        }
    }

    /** "the TAPE is empty in each case". */
    private static void textEmptiesTheTape() {
        FiveLands x = new FiveLands();
        Tests.law(x, 0, "mine 1=1;");
        Tests.no("after a law", x.end(1));
        Tests.pact(x, 0, 1, "look;");
        Tests.no("after a pact", x.end(1));
        Tests.law(x, 0, "mine");
        Tests.no("after a law's fault", x.end(1));
        Tests.pact(x, 0, 1, "mine");
        Tests.no("after a pact's fault", x.end(1));
        Tests.tape(x, "look;");
        x.text(1, 0);
        Tests.no("after no such one", x.end(1));
        Tests.due("the next text is not behind it", 20, x.feed(0, 0, 0, 0, 0));
    }

    /** "or a FAULT (the TEXT stays as it was ..)": also what the faulty one told ahead of its FAULT is not taken. */
    private static void textStaysAfterFault() {
        FiveLands x = new FiveLands();
        Tests.law(x, 0, "mine nights=0;take pay 5;free 10;step 0 50;relief off;");
        Tests.pact(x, 0, 1, "test home;top pay 30;relief free;");
        String[] laws = {"mine 1=2;take pay 9;free 20;step 0 60;relief free;mine", "", "step 7 7;step 7 7;", "mine 1=1;".repeat(21)};
        for (String s : laws) {
            Tests.due("a fault", NONE, Tests.law(x, 0, s + ";"));
            Tests.due("says so still", 1, x.of(0, 0, 5));
            Tests.due("steps and free as they were", 4500, x.tax(0, 100));
            Tests.due("takes as it did", 5, x.round(0, 0, 2, 0));
        }
        Tests.law(x, 0, "mine 1=1;take pay 50;");
        Tests.law(x, 1, "mine 1=1;");
        x.home(0, 1, true);
        x.sum(0, 0, 0, 1, 0, 0);
        for (String s : new String[] {"test nights;top pay 40;relief off;look;x", "only pay;only pay;", "look;".repeat(2), ";"}) {
            Tests.due("a fault", NONE, Tests.pact(x, 0, 1, s));
            Tests.due("its test as it was", 0, x.decides(0, 0, 1));
            Tests.due("its top as it was", 30, x.round(0, 0, 1, 0));
            Tests.due("its relief as it was", 1, x.takes(0, 0, 1, 4));
        }
    }

    /** "is the LAW of a LAND": nothing is left of what it or any other one told before, however often. */
    private static void textOftenTold() {
        FiveLands x = new FiveLands();
        x.home(0, 0, true);
        String sum = "1" + "+1".repeat(180);
        for (int i = 0; i < 6; i++) {
            Tests.due("all lines", 6, Tests.law(x, 0, "mine " + sum + "=181;take pay 7;free 1;step 0 1;step 9 9;relief free;"));
            Tests.due("says so", 1, x.of(0, 0, 5));
            Tests.due("a fault between", NONE, Tests.law(x, 1, "mine 1=1;take pay 8;free 2;step 1 1;relief off;mine"));
            Tests.due("an empty one", 0, Tests.law(x, 0, ""));
            Tests.due("says nothing", 0, x.of(0, 0, 5));
            Tests.due("takes nothing", 0, x.round(0, 0, 1, 0));
            Tests.due("without steps", 0, x.tax(0, 100));
            Tests.due("free and relief may be told again", 3, Tests.law(x, 0, "free 4;relief off;step 0 2;"));
            Tests.due("of them alone", 192, x.tax(0, 100));
        }
        for (int i = 0; i < 4; i++) {
            Tests.due("all of a pact", 5, Tests.pact(x, 0, 1, "test home;only pay;top let 3;relief off;look;"));
            Tests.due("a fault between", NONE, Tests.pact(x, 0, 1, "test bond;only let;top pay 3;relief free;look;look;"));
            Tests.due("an empty one", 0, Tests.pact(x, 0, 1, ""));
            Tests.due("all may be told again", 5, Tests.pact(x, 0, 1, "relief off;look;top let 4;only pay;test home;"));
        }
        pactForgets();
    }

    /** A PACT told anew has nothing of the one that was there, nor of one whose place it took. */
    private static void pactForgets() {
        FiveLands x = new FiveLands();
        Tests.law(x, 0, "mine 1=1;take pay 50;take let 50;");
        Tests.law(x, 1, "mine 1=1;");
        x.home(0, 0, true);
        x.sum(0, 5, 0, 1, 1, 1);
        for (int i = 0; i < 4; i++) {
            Tests.pact(x, 0, 1, "test home;relief off;top pay 9;top let 9;");
            Tests.pact(x, 0, 1, "test home;only pay;top let 3;relief free;look;");
            Tests.due("only", 0, x.round(0, 0, 1, 0));
            Tests.due("top", 3, x.round(1, 0, 1, 0));
            Tests.due("test", 0, x.decides(0, 0, 1));
            Tests.due("free", 1, x.takes(0, 0, 0, 4));
            Tests.due("look", 0, x.takes(0, 0, 0, 0));
            Tests.pact(x, 0, 1, "");
            Tests.due("no only", 50, x.round(0, 0, 1, 0));
            Tests.due("no top", 50, x.round(1, 0, 1, 0));
            Tests.due("no test", NONE, x.decides(0, 0, 1));
            Tests.due("no relief", 0, x.takes(0, 0, 0, 4));
            Tests.due("no look", 5, x.takes(0, 0, 0, 0));
        }
    }

    /** "what 0 the FAULT .., 1 its place .. NONE for another what." */
    private static void faultWhats() {
        FiveLands x = new FiveLands();
        Tests.law(x, 0, "free 1;free 2;");
        Tests.due("what 0", 3, x.fault(0));
        Tests.due("what 1", 7, x.fault(1));
        for (int what : new int[] {-1, 2, 3, 32, 256, MIN, MAX}) {
            Tests.due("what " + what, NONE, x.fault(what));
        }
        Tests.due("what 0 again", 3, x.fault(0));
    }

    /** "the FAULT (0 without one), 1 its place (NONE)": also ahead of any text(). */
    private static void faultOfNone() {
        FiveLands x = new FiveLands();
        Tests.due("no text yet", 0, x.fault(0));
        Tests.due("no place yet", NONE, x.fault(1));
        Tests.law(x, 0, "free 1;");
        Tests.due("none", 0, x.fault(0));
        Tests.due("no place", NONE, x.fault(1));
    }

    /** "Of the latest text()": not of the one before, nor of feed and end. */
    private static void faultOfTheLatest() {
        FiveLands x = new FiveLands();
        Tests.law(x, 0, "step 5 101;");
        Tests.due("a fault", 2, x.fault(0));
        Tests.tape(x, "x");
        x.end(5);
        x.of(0, 0, 0);
        Tests.due("still", 2, x.fault(0));
        Tests.due("still there", 7, x.fault(1));
        x.text(0, NONE);
        Tests.due("another one", 1, x.fault(0));
        Tests.due("at the start", 0, x.fault(1));
        x.text(0, 0);
        Tests.due("no such text", 0, x.fault(0));
        Tests.due("has no place", NONE, x.fault(1));
        Tests.law(x, 0, "free 1;free 1;");
        x.text(0, NONE);
        Tests.due("an empty text", 0, x.fault(0));
        Tests.due("has none either", NONE, x.fault(1));
    }

    /** "1 what can't stand there (the end: the text's length)". */
    private static void faultAtTheEnd() {
        for (String s : new String[] {"mine", "mine ", "mine 1", "mine 1=", "mine 1=1", "mine 1=1 and", "mine not", "mine (", "mine (1=1", "take",
            "take pay", "take pay 1", "take pay 1+", "take pay 1*", "take pay 1/", "take pay 1 when", "free", "free 1", "step", "step 1", "step 1 1",
            "relief", "relief no", "mine 1=1;\n free  \n "}) {
            Tests.lawFault(s, 1, s.length());
        }
        for (String s : new String[] {"test", "test home", "only", "only pay", "top", "top pay", "top pay 1", "relief", "relief off", "look"}) {
            Tests.pactFault(s, 1, s.length());
        }
        Tests.lawFault("free 1;" + " ".repeat(588) + "free ", 3, 595);
        Tests.lawFault("mine 1=1;" + " ".repeat(587) + "free", 1, 600);
        Tests.lawFault(" ".repeat(599) + ";", 1, 599);
    }

    /** "the first by its place": what comes behind it is not looked at. */
    private static void faultFirstByPlace() {
        Tests.lawFault("take pay 1/0+x;", 2, 11);
        Tests.lawFault("take pay x+1/0;", 1, 9);
        Tests.lawFault("free 1;free x;", 3, 7);
        Tests.lawFault("free x;free 1;", 1, 5);
        Tests.lawFault("step 5 1;step 5 101;", 2, 14);
        Tests.lawFault("step 5 101;step 5 1;", 2, 7);
        Tests.lawFault("mine " + "not ".repeat(9) + "1/0=1;", 3, 37);
        Tests.lawFault("mine 1/0=1 and " + "not ".repeat(9) + "1=1;", 2, 7);
        Tests.pactFault("only pay;only pay;top pay 101;", 3, 14);
        Tests.pactFault("top pay 101;only pay;only pay;", 2, 8);
        Tests.pactFault("look;look;x", 3, 5);
        Tests.pactFault("x;look;look;", 1, 0);
    }

    /** "at one place the least": what can't stand there at all is 1, also in the 21st line. */
    private static void faultLeastAtOnePlace() {
        Tests.lawFault("mine 1=1;".repeat(20) + ";", 1, 180);
        Tests.lawFault("mine 1=1;".repeat(20) + "look;", 1, 180);
        Tests.lawFault("mine 1=1;".repeat(20) + "5", 1, 180);
        Tests.lawFault("free 1;" + "mine 1=1;".repeat(19) + "free 1;", 3, 178);
        Tests.lawFault("step 9 9;".repeat(1) + "step 9 9x;", 2, 14);
        Tests.lawFault("step 9 9;step 1234567 9;", 1, 14);
        Tests.lawFault("step 9 1234567;", 1, 7);
        Tests.lawFault("take pay 1/0000000;", 1, 11);
        Tests.lawFault("take pay 1 " + "(".repeat(9), 1, 11);
        Tests.pactFault("test home;".repeat(20) + "mine", 1, 200);
        Tests.pactFault("look;" + "test home;".repeat(19) + "look;", 3, 195);
    }

    /** "3 (at its KEYWORD) the 21st line": the 20th stands, of each sort. */
    private static void linesTwenty() {
        String nineteen = "mine 1=1;".repeat(19);
        for (String last : new String[] {"mine 1=1;", "take pay 1;", "free 1;", "step 1 1;", "relief no;"}) {
            Tests.lawStands(nineteen + last, 20);
            Tests.lawFault(nineteen + "mine 1=1;" + last, 3, 180);
            Tests.lawFault(nineteen + "mine 1=1; \n" + last, 3, 182);
        }
        Tests.lawStands("take let 1;".repeat(20), 20);
        FiveLands x = new FiveLands();
        StringBuilder b = new StringBuilder();
        for (int i = 0; i < 20; i++) {
            b.append("step ").append(i).append(' ').append(i == 19 ? 100 : 0).append(';');
        }
        Tests.due("twenty steps", 20, Tests.law(x, 0, b.toString()));
        Tests.due("the last one counts", 100, x.tax(0, 20));
        Tests.due("twenty lines take", 20, Tests.law(x, 0, "take pay 1 when in=0;".repeat(19) + "take pay 2;"));
        Tests.due("the last one counts", 2, x.round(0, 0, 1, 0));
    }

    /** "the 21st line", of a PACT. */
    private static void linesTwentyOfPacts() {
        String nineteen = "test home;".repeat(19);
        for (String last : new String[] {"test bond;", "only pay;", "top pay 1;", "relief off;", "look;"}) {
            FiveLands x = new FiveLands();
            Tests.due("twenty, the last " + last, 20, Tests.pact(x, 0, 1, nineteen + last));
            Tests.pactFault(nineteen + "test home;" + last, 3, 200);
        }
        StringBuilder all = new StringBuilder("relief free;look;");
        for (String k : new String[] {"pay", "let", "gain", "share", "pension", "through"}) {
            all.append("only ").append(k).append(";top ").append(k).append(" 50;");
        }
        FiveLands x = new FiveLands();
        Tests.due("all that may be once", 14, Tests.pact(x, 0, 1, all.toString()));
        Tests.due("and six tests", 20, Tests.pact(x, 0, 1, all + "test home;test bond;test nights;test birth;test home;test bond;"));
    }

    /** "free and relief once"; "3 (at its KEYWORD) .. the 2nd free, relief". */
    private static void onceInLaws() {
        Tests.lawStands("free 1;relief free;", 2);
        Tests.lawStands("relief free;free 1;", 2);
        Tests.lawFault("free 1;relief free;free 1;", 3, 19);
        for (String r : new String[] {"no", "off", "free"}) {
            Tests.lawStands("relief " + r + ";", 1);
            for (String s : new String[] {"no", "off", "free"}) {
                Tests.lawFault("relief " + r + ";relief " + s + ";", 3, 8 + r.length());
            }
        }
        Tests.lawFault("free 0;\n free 0;", 3, 9);
        Tests.lawStands("mine 1=1;mine 1=1;take pay 1;take pay 1;step 1 1;step 2 1;", 6);
    }

    /** "relief and look once"; "3 (at its KEYWORD) .. the 2nd .. relief, look"; "R off or free" for PACTS. */
    private static void onceInPacts() {
        Tests.pactFault("relief no;", 1, 7);
        for (String r : new String[] {"off", "free"}) {
            FiveLands x = new FiveLands();
            Tests.due("relief " + r, 1, Tests.pact(x, 0, 1, "relief " + r + ";"));
            Tests.pactFault("relief " + r + ";look;relief off;", 3, 13 + r.length());
            Tests.pactFault("relief " + r + ";relief free;", 3, 8 + r.length());
        }
        Tests.pactFault("look;test home;look;", 3, 15);
        FiveLands x = new FiveLands();
        Tests.due("tests as often as may be", 3, Tests.pact(x, 0, 1, "test home;test home;test home;"));
    }

    /** "only and top once for each K"; "the 2nd only or top of one K (at K)". */
    private static void onceOfEachKind() {
        String[] kinds = {"pay", "let", "gain", "share", "pension", "through"};
        for (String k : kinds) {
            int n = k.length();
            Tests.pactFault("only " + k + ";only " + k + ";", 3, 11 + n);
            Tests.pactFault("top " + k + " 0;top " + k + " 0;", 3, 11 + n);
            Tests.pactFault("top " + k + " 100;top " + k + " 101;", 3, 13 + n);
            for (String other : kinds) {
                FiveLands x = new FiveLands();
                Tests.due("only " + k + " and top " + other, 2, Tests.pact(x, 0, 1, "only " + k + ";top " + other + " 5;"));
                if (!other.equals(k)) {
                    Tests.due("of both", 4, Tests.pact(x, 0, 1, "only " + k + ";only " + other + ";top " + k + " 5;top " + other + " 5;"));
                }
            }
        }
    }

    /** "(at it) the 9th ( or not that is open": eight stand. */
    private static void openEight() {
        for (int nots = 0; nots <= 8; nots++) {
            String open = "not ".repeat(nots) + "(".repeat(8 - nots);
            String close = ")".repeat(8 - nots) + ";";
            Tests.lawStands("mine " + open + "1=1" + close, 1);
            Tests.lawFault("mine " + open + "(1=1)" + close, 3, 5 + open.length());
            Tests.lawFault("mine " + open + "not 1=1" + close, 3, 5 + open.length());
            Tests.lawStands("take pay 1 when " + open + "1=1" + close, 1);
            Tests.lawFault("take pay 1 when " + open + "(", 3, 16 + open.length());
        }
        Tests.due("eight nots are none", 1, Tests.says("not ".repeat(8) + "1=1"));
        Tests.due("seven are one", 0, Tests.says("not ".repeat(7) + "1=1"));
        Tests.due("in eight brackets", 1, Tests.says("((((((((1=1))))))))"));
        Tests.lawFault("mine " + "(".repeat(8) + "1=1" + ")".repeat(9) + ";", 1, 24);
        Tests.lawFault("mine " + "(".repeat(8) + "1=1" + ")".repeat(7) + ";", 1, 23);
        Tests.lawFault("mine (not ((not ((not ((not 1=1;", 3, 22);
        Tests.lawFault("mine (not ((not ((1=1 and not (1=1;", 3, 30);
    }

    /** "that is open": what is closed counts no more, neither in this line nor in one ahead. */
    private static void openIsWhatIsNotClosed() {
        Tests.lawStands("mine ((((((((1=1)or(1=1)))))))or(((((((1=1))))))));", 1);
        Tests.lawFault("mine ((((((((1=1)or((1=1)))))))));", 3, 20);
        Tests.lawStands("mine (((((((not 1=1 and not 1=1 or not 1=1)))))));", 1);
        Tests.lawStands("mine ((((((((1=1))))))));mine not not not not not not not not 1=1;", 2);
        Tests.lawStands("mine not not not not not not not not 1=1 or not not not not not not not not 1=1;", 1);
        Tests.lawStands("take pay 1 when ((((((((1=1))))))));take let 1 when ((((((((1=1))))))));", 2);
        Tests.lawStands("mine " + "not(1=1)and ".repeat(40) + "1=1;", 1);
        FiveLands x = new FiveLands();
        Tests.due("a text that leaves all open", NONE, Tests.law(x, 0, "mine (((((((("));
        Tests.due("does nothing to the next one", 1, Tests.law(x, 0, "mine ((((((((1=1))))))));"));
        Tests.due("that says so", 1, x.of(0, 0, 5));
        Tests.due("a text that leaves a sign open", NONE, Tests.law(x, 0, "mine not 1=2 and not (1=2 or"));
        Tests.due("does nothing either", 1, Tests.law(x, 0, "mine 1=1;"));
        Tests.due("that says so too", 1, x.of(0, 0, 5));
    }

    /** "2 (at the NUMBER) a part by 0": 1 is the least. */
    private static void partsBy0() {
        Tests.lawStands("take pay 5/1;", 1);
        Tests.lawStands("take pay 5/000001;", 1);
        Tests.lawStands("take pay 5/999999;", 1);
        Tests.lawFault("take pay 5/0;", 2, 11);
        Tests.lawFault("take pay 5/ 000000;", 2, 12);
        Tests.lawFault("mine 1/0=1;", 2, 7);
        Tests.lawFault("mine 1=1/1/0;", 2, 11);
        Tests.lawFault("mine 1=1*0/0;", 2, 11);
        Tests.lawStands("take pay 0/5;", 1);
        Tests.lawStands("take pay 5*0;", 1);
    }

    /** "P 0 .. 100", "top N 0 .. 100"; "P or a top above 100". */
    private static void partsTo100() {
        for (String p : new String[] {"0", "1", "99", "100", "000100"}) {
            Tests.lawStands("step 0 " + p + ";", 1);
            FiveLands x = new FiveLands();
            Tests.due("top " + p, 1, Tests.pact(x, 0, 1, "top pay " + p + ";"));
        }
        for (String p : new String[] {"101", "102", "999999", "000101"}) {
            Tests.lawFault("step 0 " + p + ";", 2, 7);
            Tests.pactFault("top pay " + p + ";", 2, 8);
        }
        Tests.lawFault("step 0 -1;", 1, 7);
        Tests.pactFault("top pay -1;", 1, 8);
    }

    /** "their Ns rise"; "a step's N that is not above the one ahead". */
    private static void stepsRise() {
        Tests.lawStands("step 0 1;step 1 1;step 2 1;", 3);
        Tests.lawStands("step 999998 1;step 999999 1;", 2);
        Tests.lawFault("step 0 1;step 0 1;", 2, 14);
        Tests.lawFault("step 1 1;step 0 1;", 2, 14);
        Tests.lawFault("step 999999 1;step 999999 1;", 2, 19);
        Tests.lawFault("step 1 1;step 5 1;step 3 1;", 2, 23);
        Tests.lawFault("step 5 1;free 9;mine 1=1;step 5 1;", 2, 30);
        Tests.lawFault("step 5 1;step 6 1;step 6 1;", 2, 23);
        FiveLands x = new FiveLands();
        Tests.law(x, 0, "step 500 1;");
        Tests.due("a text's first step has none ahead", 1, Tests.law(x, 0, "step 0 1;"));
        Tests.due("also behind a fault", NONE, Tests.law(x, 0, "step 700 1;x"));
        Tests.due("and of another land", 1, Tests.law(x, 1, "step 0 1;"));
    }

    /** "free N: N a NUMBER". */
    private static void freeNumbers() {
        Tests.lawStands("free 0;", 1);
        Tests.lawStands("free 999999;", 1);
        Tests.lawFault("free nights;", 1, 5);
        Tests.lawFault("free 1+1;", 1, 6);
        Tests.lawFault("free 1000000;", 1, 5);
    }

    /** "digits as many as stand together NUMBERS of 1 to 6 digits or none". */
    private static void numbersOfSixDigits() {
        Tests.lawStands("free 1;step 12 3;", 2);
        Tests.lawStands("free 123456;", 1);
        Tests.lawFault("free 1234567;", 1, 5);
        Tests.lawFault("free 0000000;", 1, 5);
        Tests.lawFault("free 4294967297;", 1, 5);
        Tests.lawFault("free 18446744073709551617;", 1, 5);
        Tests.lawFault("mine 1=0000001;", 1, 7);
        Tests.lawFault("free 123 456;", 1, 9);
        FiveLands x = new FiveLands();
        Tests.law(x, 0, "step 0 100;free 000007;");
        Tests.due("noughts ahead count nothing", 300, x.tax(0, 10));
        Tests.due("the greatest number", 1, Tests.says("999999=999998+1"));
    }

    /** "letters as many as stand together are KEYWORDS (those told here) or none". */
    private static void letters() {
        for (String s : new String[] {"min", "mines", "minez", "minea", "mineZ", "mineA", "zmine", "amine", "Zmine", "Amine", "take5", "m", "free_", "Free", "fREE", "freE", "steps", "reliefs", "zzzzzzzz"}) {
            Tests.lawFault(s + " 5;", 1, s.equals("free_") ? 4 : s.equals("take5") ? 4 : 0);
        }
        Tests.lawFault("freerelief", 1, 0);
        Tests.lawFault("mine nightsbond=1;", 1, 5);
        Tests.lawFault("mine 1=1andx1=1;", 1, 8);
        Tests.lawFault("mine 1=1 and1=1;mine 1=1 andnot 1=1;", 1, 25);
        Tests.lawFault("free 5;`", 1, 7);
        Tests.lawFault("free 5;{", 1, 7);
        Tests.lawFault("free 5;@", 1, 7);
        Tests.lawFault("free 5;[", 1, 7);
        Tests.lawFault("free`5;", 1, 4);
        Tests.lawFault("free{5;", 1, 4);
        Tests.pactFault("tes home;", 1, 0);
        Tests.pactFault("tests home;", 1, 0);
        Tests.pactFault("test homes;", 1, 5);
        Tests.pactFault("only pays;", 1, 5);
        Tests.pactFault("only pensions;", 1, 5);
        Tests.pactFault("only throughout;", 1, 5);
    }

    /** What stands just ahead of and behind the digits is none. */
    private static void digits() {
        Tests.lawStands("free 0;", 1);
        Tests.lawStands("free 9;", 1);
        Tests.lawFault("free /;", 1, 5);
        Tests.lawFault("free :;", 1, 5);
        Tests.lawFault("free 5:;", 1, 6);
        Tests.lawFault("free 5/;", 1, 6);
        Tests.lawStands("free5;step5 6;mine 1=1and 2=2;take pay 3when 4=4;", 4);
        Tests.lawFault("5free;", 1, 0);
    }

    /** "; + - * / ( ) < = >": each of them, and those next to them that are none. */
    private static void signs() {
        Tests.lawStands("mine (1+2-3*4/5<6)or(1=1)or(1>2);", 1);
        for (char c : "!\"#$%&',.:?@[\\]^_`{|}~".toCharArray()) {
            Tests.lawFault("free 5;" + c, 1, 7);
            Tests.lawFault("take pay 1" + c + "1;", 1, 10);
            Tests.lawFault("mine 1" + c + "1;", 1, 6);
        }
        for (String s : new String[] {"==", "<=", ">=", "=<", "<>", "><"}) {
            Tests.lawFault("mine 1" + s + "1;", 1, 7);
        }
        for (String s : new String[] {"++", "--", "+-", "-+", "**", "//", "*-", "/-", "/+", "*/"}) {
            Tests.lawFault("mine 1" + s + "1=1;", 1, 7);
        }
    }

    /** "Blanks (32, 10) between": no other one, none needed where tokens end anyhow, as many as one likes. */
    private static void blanks() {
        Tests.lawStands(" \n free \n 5 \n ; \n ", 1);
        Tests.lawStands("\n".repeat(600), 0);
        Tests.lawStands(" ".repeat(600), 0);
        for (int c : new int[] {0, 1, 9, 11, 12, 13, 31, 33, 127, 128, 160, 255}) {
            Tests.lawFault("free" + (char) c + "5;", 1, 4);
            Tests.lawFault("free 5;" + (char) c, 1, 7);
        }
        Tests.lawFault("fr ee 5;", 1, 0);
        Tests.lawFault("free 1 2;", 1, 7);
    }

    /** "KEYWORDS (those told here)": none stands where another one must. */
    private static void wordsOfOtherTexts() {
        for (String key : new String[] {"test", "only", "top", "look", "pay", "nights", "when", "no", "off", "or", "and", "not", "home", "in"}) {
            Tests.lawFault(key + " 5;", 1, 0);
        }
        for (String key : new String[] {"mine", "take", "free", "step", "pay", "nights", "when", "no", "off", "or", "and", "not", "home", "in"}) {
            Tests.pactFault(key + " 5;", 1, 0);
        }
        for (String key : new String[] {"most", "in", "pays", "amount", "pay", "mine", "no"}) {
            Tests.pactFault("test " + key + ";", 1, 5);
        }
        for (String key : new String[] {"mine", "pay", "when", "no", "off", "test", "look", "free", "through", "relief"}) {
            Tests.lawFault("mine " + key + "=1;", 1, 5);
        }
        for (String key : new String[] {"nights", "pays", "amount", "mine", "off", "free"}) {
            Tests.lawFault("take " + key + " 1;", 1, 5);
            Tests.pactFault("only " + key + ";", 1, 5);
            Tests.pactFault("top " + key + " 1;", 1, 4);
        }
    }

    /** "Ints, which wrap": sums and differences, at the greatest and at the least int. */
    private static void sumsWrap() {
        Tests.due("the greatest is above 0", 1, Tests.says(GREATEST + ">0"));
        Tests.due("one more is below 0", 1, Tests.says(GREATEST + "+1<0"));
        Tests.due("it is the least", 1, Tests.says(GREATEST + "+1=" + LEAST));
        Tests.due("the least is below 0", 1, Tests.says(LEAST + "<0"));
        Tests.due("one less is above 0", 1, Tests.says(LEAST + "-1>0"));
        Tests.due("it is the greatest", 1, Tests.says(LEAST + "-1=" + GREATEST));
        Tests.due("and back again", 1, Tests.says(GREATEST + "+1-1=" + GREATEST));
    }

    /** "Ints, which wrap": products; what wraps ahead is what is parted, and what a LAND takes is cut behind that. */
    private static void productsWrap() {
        Tests.due("2 to the 31", 1, Tests.says("65536*32768<0"));
        Tests.due("just below it", 1, Tests.says("65536*32767>0"));
        Tests.due("2 to the 32", 1, Tests.says("65536*65536=0"));
        Tests.due("and one", 1, Tests.says("65536*65536+1=1"));
        Tests.due("parted when wrapped", 1, Tests.says("65536*65536/65536=0"));
        Tests.due("the greatest square that doesn't wrap", 1, Tests.says("46340*46340>0"));
        Tests.due("the least that does", 1, Tests.says("46341*46341<0"));
        Tests.due("a product of three", 1, Tests.says("999999*999999*999999+999999*999999*999999=2*999999*999999*999999"));
        FiveLands x = new FiveLands();
        Tests.law(x, 0, "take pay amount*amount;take let 65536*65536+7;take gain 999999*2147+485794;take share 999999*2147+485795;");
        Tests.due("wraps to 7", 7, x.round(1, 0, 1, 0));
        Tests.due("the greatest is cut to 100", 100, x.round(2, 0, 1, 0));
        Tests.due("one more is cut to 0", 0, x.round(3, 0, 1, 0));
        int[] amounts = {46340, 46341, 65536, 92681, 92682};
        int[] parts = {100, 0, 0, 0, 100};
        for (int i = 0; i < amounts.length; i++) {
            x.sum(0, 0, 0, amounts[i], 5, 5);
            Tests.due("square of " + amounts[i], (long) amounts[i] * parts[i], x.takes(0, i, 0, 1));
        }
    }

    /** "E (< | = | >) E": of ints whose difference would wrap, and at one more and one less. */
    private static void comparedWithoutWrap() {
        Tests.due("least < greatest", 1, Tests.says(LEAST + "<" + GREATEST));
        Tests.due("greatest > least", 1, Tests.says(GREATEST + ">" + LEAST));
        Tests.due("least > greatest", 0, Tests.says(LEAST + ">" + GREATEST));
        Tests.due("greatest < least", 0, Tests.says(GREATEST + "<" + LEAST));
        Tests.due("least = greatest", 0, Tests.says(LEAST + "=" + GREATEST));
        String[] ops = {"<", "=", ">"};
        for (int l = 4; l <= 6; l++) {
            for (int i = 0; i < 3; i++) {
                Tests.due(l + ops[i] + 5, l - 5 == i - 1 ? 1 : 0, Tests.says(l + ops[i] + 5));
            }
        }
    }

    /** "Quotients go towards 0": above 0, and below it, where only what wraps comes. */
    private static void quotientsTowards0() {
        Tests.due("7/2", 1, Tests.says("7/2=3"));
        Tests.due("1/2", 1, Tests.says("1/2=0"));
        Tests.due("999999/999999", 1, Tests.says("999999/999999=1"));
        Tests.due("999998/999999", 1, Tests.says("999998/999999=0"));
        Tests.due("-729379967/2", 1, Tests.says("999999*999999/2=0-364689*1000-983"));
        Tests.due("-2147483648/999999", 1, Tests.says("65536*32768/999999=0-2147"));
        Tests.due("-2147483648/1", 1, Tests.says("65536*32768/1=65536*32768"));
    }

    /** "E = T {(+ | -) T}. T = U {* U | / NUMBER}": from left to right, parts and times ahead of sums. */
    private static void leftToRight() {
        Tests.due("9-4-3", 1, Tests.says("9-4-3=2"));
        Tests.due("9-4+3", 1, Tests.says("9-4+3=8"));
        Tests.due("7/2*2", 1, Tests.says("7/2*2=6"));
        Tests.due("2*7/2", 1, Tests.says("2*7/2=7"));
        Tests.due("99/10/3", 1, Tests.says("99/10/3=3"));
        Tests.due("1+2*3-8/4", 1, Tests.says("1+2*3-8/4=5"));
        Tests.due("or behind and", 1, Tests.says("1=1 or 1=2 and 1=2"));
        Tests.due("and ahead of or", 1, Tests.says("1=2 and 1=2 or 1=1"));
        Tests.due("not is of one C", 0, Tests.says("not 1=2 and 1=2"));
        Tests.due("not of brackets", 1, Tests.says("not(1=1 and 1=2)"));
    }

    /** "of a SUM (for take) in .., pays .., amount; for mine these are 0": also behind a call that asked them for take. */
    private static void askedForMine() {
        FiveLands x = new FiveLands();
        String takes = "take pay 10 when in=1 and pays=1 and amount=7;";
        x.sum(0, 0, 0, 7, 0, 0);
        x.sum(1, 0, 0, 7, 0, 0);
        for (String b : new String[] {"in=1", "pays=1", "amount>0"}) {
            Tests.law(x, 0, "mine " + b + ";" + takes);
            Tests.due("takes", 70, x.takes(0, 0, 0, 1));
            Tests.due("says nothing by " + b, 0, x.of(0, 0, 5));
            Tests.due("owes", 70, x.owes(1, 0));
            Tests.due("says nothing in year 1", 0, x.of(1, 0, 6));
            Tests.due("hangs never", 0, x.hangs(0, 0));
            Tests.due("no edge", NONE, x.edge(0, 0, 1, 0));
        }
        Tests.law(x, 0, "mine in=0 and pays=0 and amount=0;" + takes);
        Tests.due("his", 1, x.owes(0, 3));
        Tests.due("and still", 1, x.owes(0, 3));
    }
}
