/** Promises 6 to 9: the TAPE, TEXTS and their FAULTS. */
public final class TextTest {
    private static final int NONE = FiveLands.NONE;

    public static void main(String[] args) {
        feeding();
        ending();
        texts();
        noSuchText();
        lawFaults();
        brackets();
        pactFaults();
        tokens();
        longTexts();
        Tests.finish();
    }

    /** Promise 6. */
    private static void feeding() {
        FiveLands x = new FiveLands();
        for (int i = 1; i <= 30; i++) {
            Tests.due("feed " + i, 20L * i, x.feed(0x20202020, 0x20202020, 0x20202020, 0x20202020, 0x20202020));
        }
        Tests.due("feed beyond 600", NONE, x.feed(0, 0, 0, 0, 0));
        Tests.yes("it still has 600", x.end(600));
        Tests.no("and not 601", x.end(601));
        Tests.yes("end at 581", x.end(581));
        Tests.due("601 would be too many", NONE, x.feed(0, 0, 0, 0, 0));
        Tests.yes("nothing came", x.end(581));
        Tests.no("not 582", x.end(582));
        Tests.yes("end at 580", x.end(580));
        Tests.due("600 are not", 600, x.feed(0, 0, 0, 0, 0));
        FiveLands z = new FiveLands();
        z.feed(0x6d696e65, 0x20313d31, 0x3b000000, -1, -1);
        z.end(9);
        Tests.due("the highest byte comes first", 1, z.text(3, NONE));
        Tests.due("and it says so", 1, z.of(0, 3, 5));
        z.feed(0x20202020, 0x202020ff, 0, 0, 0);
        z.end(8);
        Tests.due("a byte 255", NONE, z.text(3, NONE));
        Tests.due("can't stand there", 1, z.fault(0));
        Tests.due("at 7", 7, z.fault(1));
    }

    /** Promise 7. */
    private static void ending() {
        FiveLands x = new FiveLands();
        Tests.yes("end(0) of nothing", x.end(0));
        Tests.no("end(1) of nothing", x.end(1));
        Tests.no("end(-1)", x.end(-1));
        Tests.no("end(MIN)", x.end(Integer.MIN_VALUE));
        x.feed(1, 2, 3, 4, 5);
        Tests.no("end(21)", x.end(21));
        Tests.no("end(MAX)", x.end(Integer.MAX_VALUE));
        Tests.yes("end(20)", x.end(20));
        Tests.yes("end(7)", x.end(7));
        Tests.no("end(8) then", x.end(8));
        Tests.due("feed behind it", 27, x.feed(1, 2, 3, 4, 5));
        Tests.yes("end(0)", x.end(0));
        Tests.due("feed anew", 20, x.feed(1, 2, 3, 4, 5));
    }

    /** Promise 8. */
    private static void texts() {
        FiveLands x = new FiveLands();
        Tests.due("an empty text", 0, x.text(0, NONE));
        Tests.due("a law", 2, Tests.law(x, 0, "mine 1=1; step 0 10;"));
        Tests.no("the tape is empty then", x.end(1));
        Tests.due("it holds", 1, x.of(0, 0, 5));
        Tests.due("a fault", NONE, Tests.law(x, 0, "mine 1=2;mine"));
        Tests.no("the tape is empty then too", x.end(1));
        Tests.due("the law stays", 1, x.of(0, 0, 5));
        Tests.due("the steps stay", 1000, x.tax(0, 100));
        Tests.due("another law", 1, Tests.law(x, 1, "free 5;"));
        Tests.due("is not 0's", 1, x.of(0, 0, 5));
        Tests.due("an empty law", 0, Tests.law(x, 0, " \n "));
        Tests.due("says nothing", 0, x.of(0, 0, 5));
        Tests.due("has no steps", 0, x.tax(0, 100));
        Tests.due("a pact", 1, Tests.pact(x, 4, 5, "test home;"));
        Tests.due("all lines of a law", 6, Tests.law(x, 2,
            "mine nights>most or not(home=1 and bond=0);take through amount/3-in*pays+birth when in=1;free 0;step 0 0;step 1 100;relief no;"));
        Tests.due("all lines of a pact", 6, Tests.pact(x, 0, 5, "test birth;test nights;only through;top pension 100;relief free;look;"));
        Tests.due("tests may come twice", 3, Tests.pact(x, 0, 5, "test home;test home;test bond;"));
        Tests.due("only and top of one K", 4, Tests.pact(x, 0, 5, "only pay;top pay 0;only let;top let 1;"));
        FiveLands z = new FiveLands();
        Tests.law(z, 0, "mine 1=1;");
        Tests.law(z, 1, "mine 1=1;");
        z.home(0, 1, true);
        Tests.pact(z, 0, 1, "test home;");
        Tests.due("pact stands", 2, z.owes(0, 3));
        Tests.due("a pact's fault", NONE, Tests.pact(z, 0, 1, "look;test"));
        Tests.due("pact stays", 2, z.owes(0, 3));
        Tests.due("a pact emptied", 0, Tests.pact(z, 0, 1, ""));
        Tests.due("pact is gone", 3, z.owes(0, 3));
    }

    /** Promises 8 and 9: no such text. */
    private static void noSuchText() {
        int[][] bad = {{6, NONE}, {-1, NONE}, {NONE, 3}, {1, 0}, {2, 2}, {0, 6}, {0, -2}, {5, 6}, {Integer.MIN_VALUE, Integer.MAX_VALUE}};
        for (int[] b : bad) {
            FiveLands x = new FiveLands();
            Tests.law(x, 0, "free free;");
            Tests.due("a fault ahead", 1, x.fault(0));
            Tests.due("a place ahead", 5, x.fault(1));
            Tests.tape(x, "free");
            Tests.due("text(" + b[0] + "," + b[1] + ")", NONE, x.text(b[0], b[1]));
            Tests.due("fault(0)", 0, x.fault(0));
            Tests.due("fault(1)", NONE, x.fault(1));
            Tests.no("the tape is empty", x.end(1));
        }
        FiveLands x = new FiveLands();
        Tests.due("fault(2)", NONE, x.fault(2));
        Tests.due("fault(-1)", NONE, x.fault(-1));
        Tests.law(x, 0, ";");
        Tests.due("fault(2) with a fault", NONE, x.fault(2));
        Tests.law(x, 0, "");
        Tests.due("fault(0) is of the latest", 0, x.fault(0));
        Tests.due("fault(1) is of the latest", NONE, x.fault(1));
    }

    /** Promise 9. */
    private static void lawFaults() {
        Tests.lawFault(";", 1, 0);
        Tests.lawFault("mine", 1, 4);
        Tests.lawFault("mine  ", 1, 6);
        Tests.lawFault("mine 1=1", 1, 8);
        Tests.lawFault("mine 1", 1, 6);
        Tests.lawFault("mine 1;", 1, 6);
        Tests.lawFault("mine 1=1=1;", 1, 8);
        Tests.lawFault("mine =1;", 1, 5);
        Tests.lawFault("mine 1=1 or;", 1, 11);
        Tests.lawFault("mine 1=1 and or;", 1, 13);
        Tests.lawFault("mine 1=pay;", 1, 7);
        Tests.lawFault("mine -1=1;", 1, 5);
        Tests.lawFault("mine 1=1 when 1=1;", 1, 9);
        Tests.lawFault("take 5;", 1, 5);
        Tests.lawFault("take pay;", 1, 8);
        Tests.lawFault("take pay 5 5;", 1, 11);
        Tests.lawFault("take pay 5 when;", 1, 15);
        Tests.lawFault("take pay 5 when 1;", 1, 17);
        Tests.lawFault("take pay (5);", 1, 9);
        Tests.lawFault("take home 5;", 1, 5);
        Tests.lawFault("take pay 5/nights;", 1, 11);
        Tests.lawFault("take pay 5/0;", 2, 11);
        Tests.lawFault("take pay 5/000000;", 2, 11);
        Tests.lawFault("take pay 5/1/0/x;", 2, 13);
        Tests.lawFault("mine 1=2*3/0;", 2, 11);
        Tests.lawFault("take pay 5 when 1=nights/0;", 2, 25);
        Tests.lawFault("free;", 1, 4);
        Tests.lawFault("free x;", 1, 5);
        Tests.lawFault("free 5 5;", 1, 7);
        Tests.lawFault("free 1;relief off;free x;", 3, 18);
        Tests.lawFault("free 0;free 0;", 3, 7);
        Tests.lawFault("step 5;", 1, 6);
        Tests.lawFault("step off 5;", 1, 5);
        Tests.lawFault("step 5 101;", 2, 7);
        Tests.lawFault("step 5 10;step 5 x;", 2, 15);
        Tests.lawFault("step 5 10;step 4 10;", 2, 15);
        Tests.lawFault("step 5 10;free 3;step 4 10;", 2, 22);
        Tests.lawFault("step 5 10 10;", 1, 10);
        Tests.lawFault("relief;", 1, 6);
        Tests.lawFault("relief on;", 1, 7);
        Tests.lawFault("relief no;relief x;", 3, 10);
        Tests.lawFault("test home;", 1, 0);
        Tests.lawFault("only pay;", 1, 0);
        Tests.lawFault("top pay 5;", 1, 0);
        Tests.lawFault("look;", 1, 0);
        Tests.lawFault("free 1;;", 1, 7);
        String twenty = "mine 1=1;".repeat(20);
        Tests.lawStands(twenty, 20);
        Tests.lawFault(twenty + "free 1;", 3, 180);
        Tests.lawFault(twenty + "free", 3, 180);
        Tests.lawFault(twenty + ";", 1, 180);
        Tests.lawFault(twenty + "look;", 1, 180);
        Tests.lawStands("step 0 100;step 1 0;step 999999 100;", 3);
        Tests.lawStands("free 999999;", 1);
    }

    /** Promise 9: at most eight brackets and nots are open at once. */
    private static void brackets() {
        Tests.lawStands("mine " + "(".repeat(8) + "1=1" + ")".repeat(8) + ";", 1);
        Tests.lawFault("mine " + "(".repeat(9) + "1=1" + ")".repeat(9) + ";", 3, 13);
        Tests.lawStands("mine " + "not ".repeat(8) + "1=1;", 1);
        Tests.lawFault("mine " + "not ".repeat(9) + "1=1;", 3, 37);
        Tests.lawFault("mine " + "not(".repeat(4) + "not 1=1))));", 3, 21);
        Tests.lawStands("mine " + "not(".repeat(4) + "1=1)))) and " + "not(".repeat(4) + "1=1))));", 1);
        Tests.lawStands("mine " + "not 1=1 and ".repeat(12) + "not 1=1;", 1);
        Tests.lawStands("mine " + "(1=1)or".repeat(12) + "(1=1);", 1);
        Tests.lawStands("take pay 1 when (((((((not 1=1)))))));mine ((((((((1=1))))))));", 2);
        Tests.lawFault("mine (1=1;", 1, 9);
        Tests.lawFault("mine (1=1", 1, 9);
        Tests.lawFault("mine 1=1);", 1, 8);
        Tests.lawFault("mine (1=1));", 1, 10);
        Tests.lawFault("mine ();", 1, 6);
        Tests.lawFault("mine (1)=1;", 1, 7);
        Tests.lawFault("mine not;", 1, 8);
        Tests.lawFault("mine not (1=1 or not);", 1, 20);
        Tests.lawFault("mine (1=1 and (2=2 or 3=3);", 1, 26);
    }

    /** Promise 9, for pacts. */
    private static void pactFaults() {
        Tests.pactFault("mine 1=1;", 1, 0);
        Tests.pactFault("free 5;", 1, 0);
        Tests.pactFault("test;", 1, 4);
        Tests.pactFault("test most;", 1, 5);
        Tests.pactFault("test home home;", 1, 10);
        Tests.pactFault("only;", 1, 4);
        Tests.pactFault("only home;", 1, 5);
        Tests.pactFault("only pay;top pay 5;only pay;", 3, 24);
        Tests.pactFault("top pay;", 1, 7);
        Tests.pactFault("top pay 101;", 2, 8);
        Tests.pactFault("top through 1;top through 101;", 3, 18);
        Tests.pactFault("top 5 5;", 1, 4);
        Tests.pactFault("relief no;", 1, 7);
        Tests.pactFault("relief off;relief no;", 3, 11);
        Tests.pactFault("look 1;", 1, 5);
        Tests.pactFault("look;look;", 3, 5);
        Tests.pactFault("look", 1, 4);
        String twenty = "test home;".repeat(20);
        FiveLands x = new FiveLands();
        Tests.due("twenty lines", 20, Tests.pact(x, 0, 1, twenty));
        Tests.pactFault(twenty + "look;", 3, 200);
        Tests.pactFault(twenty + "x", 1, 200);
        Tests.due("top 100 stands", 1, Tests.pact(x, 0, 1, "top pay 100;"));
    }

    /** Promise 9: what is a token and what is none. */
    private static void tokens() {
        Tests.lawFault("Mine 1=1;", 1, 0);
        Tests.lawFault("mines 1=1;", 1, 0);
        Tests.lawFault("mineX 1=1;", 1, 0);
        Tests.lawFault("min 1=1;", 1, 0);
        Tests.lawFault("minez 1=1;", 1, 0);
        Tests.lawFault("minea 1=1;", 1, 0);
        Tests.lawFault("mineZ 1=1;", 1, 0);
        Tests.lawFault("mineA 1=1;", 1, 0);
        Tests.lawFault("throughthrough", 1, 0);
        Tests.lawFault("free 1234567;", 1, 5);
        Tests.lawFault("free 0000001;", 1, 5);
        Tests.lawFault("free 12345678901234567890;", 1, 5);
        Tests.lawStands("free 000001;", 1);
        Tests.lawStands("free5;step1 2;step\n3\n4\n;", 3);
        Tests.lawStands("mine 1=1and 2=2or not(3=3);", 1);
        Tests.lawFault("free\t5;", 1, 4);
        Tests.lawFault("free\r5;", 1, 4);
        Tests.lawFault("free 5.", 1, 6);
        Tests.lawFault("free 5,", 1, 6);
        Tests.lawFault("free \u00e95;", 1, 5);
        Tests.lawFault("take pay 1 % 2;", 1, 11);
        Tests.lawFault("mine 1<=1;", 1, 7);
        Tests.lawFault("mine 1:1;", 1, 6);
        Tests.lawFault("free 5;\u0000", 1, 7);
        Tests.lawFault("mine 1=1 & 1=1;", 1, 9);
        Tests.lawFault("mine 1=1'", 1, 8);
    }

    private static void longTexts() {
        Tests.lawStands(" ".repeat(592) + "free 10;", 1);
        Tests.lawFault(" ".repeat(600 - 7) + "free 10", 1, 600);
        StringBuilder b = new StringBuilder("mine 1");
        while (b.length() < 596) {
            b.append("+1");
        }
        FiveLands x = new FiveLands();
        Tests.due("a long sum", 1, Tests.law(x, 0, b + "=1;"));
        Tests.due("is not 1", 0, x.of(0, 0, 5));
        Tests.due("a long sum again", 1, Tests.law(x, 0, b + ">9;"));
        Tests.due("is above 9", 1, x.of(0, 0, 5));
    }
}
