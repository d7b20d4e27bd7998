/** What the tests share: telling what is wrong, and feeding texts. */
final class Tests {
    private static int wrong = 0;

    private Tests() { }

    static void due(String call, long want, long got) {
        if (got != want) {
            wrong++;
            System.out.println(call + " answered " + got + ", due is " + want);
        }
    }

    static void yes(String call, boolean got) {
        due(call, 1, got ? 1 : 0);
    }

    static void no(String call, boolean got) {
        due(call, 0, got ? 1 : 0);
    }

    /** Puts a text on the TAPE; false if it has no room. */
    static boolean tape(FiveLands x, String text) {
        for (int i = 0; i < text.length(); i += 20) {
            int[] n = five(text, i);
            if (x.feed(n[0], n[1], n[2], n[3], n[4]) == FiveLands.NONE) {
                return false;
            }
        }
        return x.end(text.length());
    }

    /** Five numbers of four bytes each, with 0 behind the text's end. */
    static int[] five(String text, int from) {
        int[] n = new int[5];
        for (int i = 0; i < 20; i++) {
            int c = from + i < text.length() ? text.charAt(from + i) : 0;
            n[i / 4] = n[i / 4] << 8 | c;
        }
        return n;
    }

    static int law(FiveLands x, int land, String text) {
        return tape(x, text) ? x.text(land, FiveLands.NONE) : -99;
    }

    static int pact(FiveLands x, int a, int b, String text) {
        return tape(x, text) ? x.text(a, b) : -99;
    }

    /** A law's text with this FAULT at this place. */
    static void lawFault(String text, int fault, int place) {
        FiveLands x = new FiveLands();
        due("text of " + text, FiveLands.NONE, law(x, 0, text));
        due("fault(0) of " + text, fault, x.fault(0));
        due("fault(1) of " + text, place, x.fault(1));
    }

    static void pactFault(String text, int fault, int place) {
        FiveLands x = new FiveLands();
        due("text of pact " + text, FiveLands.NONE, pact(x, 0, 1, text));
        due("fault(0) of pact " + text, fault, x.fault(0));
        due("fault(1) of pact " + text, place, x.fault(1));
    }

    static void lawStands(String text, int lines) {
        FiveLands x = new FiveLands();
        due("text of " + text, lines, law(x, 0, text));
        due("fault(0) of " + text, 0, x.fault(0));
        due("fault(1) of " + text, FiveLands.NONE, x.fault(1));
    }

    /** Whether LAND 0 of a new object says so by a B. */
    static long says(String b) {
        FiveLands x = new FiveLands();
        return law(x, 0, "mine " + b + ";") == 1 ? x.of(0, 0, 5) : -99;
    }

    /** LANDS 0 and up are HIS by a home in YEAR 0, tax by one step from 0 on; a SUM of a KIND share from LAND 0. */
    static FiveLands ring(int amount, int[] parts, String[] reliefs) {
        FiveLands x = new FiveLands();
        for (int l = 0; l < parts.length; l++) {
            x.home(0, l, true);
            law(x, l, "mine home=1;step 0 " + parts[l] + ";" + reliefs[l]);
        }
        x.sum(0, 3, 0, amount, 0, 0);
        return x;
    }

    static void pacts(FiveLands x, String text, int[]... pairs) {
        for (int[] p : pairs) {
            due("pact of " + p[0] + " and " + p[1], 1, pact(x, p[0], p[1], text));
        }
    }

    static void finish() {
        if (wrong > 0) {
            System.out.println(wrong + " answers are not as due");
            System.exit(1);
        }
        System.out.println("all answers are as due");
    }
}
