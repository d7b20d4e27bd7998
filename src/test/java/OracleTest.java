import java.util.Random;

/** Random runs of calls on the class and on the Oracle: each answer must be the same. All promises, 1 to 26. */
public final class OracleTest {
    private static final String[] KINDS = {"pay", "let", "gain", "share", "pension", "through"};
    private static final String[] FACTS = {"nights", "home", "bond", "birth", "most", "in", "pays", "amount"};
    private static final String[] PIECES = {"mine ", "take ", "when ", "free ", "step ", "relief ", "pay ", "through ", "no ",
        "off ", "or ", "and ", "not ", "nights ", "amount ", "test ", "only ", "top ", "look ", ";", "(", ")", "*", "/", "+", "-",
        "<", "=", ">", "0", "101", "100", "999999", "1234567", ".", "!", "Mine", "\n", "\t", "\u00e9"};

    private final Random random;
    private final FiveLands x = new FiveLands();
    private final Oracle o = new Oracle();
    private final StringBuilder log = new StringBuilder();
    private final boolean heavy;
    /** 0 all sorts of laws, 1 rings of homes and reliefs, 2 sources, turnings and words, 3 lands that vie for him. */
    private final int style;
    private int calls = 0;
    private boolean wrong = false;

    private OracleTest(long seed) {
        random = new Random(seed);
        heavy = seed % 4 == 0;
        style = n(4);
    }

    public static void main(String[] args) {
        int from = args.length > 0 ? Integer.parseInt(args[0]) : 0;
        int to = args.length > 1 ? Integer.parseInt(args[1]) : 250;
        int bad = 0;
        for (int seed = from; seed < to && bad < 3; seed++) {
            OracleTest test = new OracleTest(seed * 7919L + 13);
            test.run();
            if (test.wrong) {
                bad++;
                System.out.println("run " + seed + ":\n" + test.log);
            }
        }
        System.out.println(bad == 0 ? "all answers are as due" : bad + " runs are wrong");
        if (bad > 0) {
            System.exit(1);
        }
    }

    private void run() {
        setUp();
        int many = 40 + random.nextInt(100);
        for (int i = 0; i < many && !wrong && calls < 500; i++) {
            if (random.nextInt(4) == 0) {
                change();
            } else {
                ask();
            }
        }
    }

    private int n(int bound) {
        return random.nextInt(bound);
    }

    private boolean odds(int in) {
        return n(in) == 0;
    }

    /** A LAND as a rule, now and then one that can't be. */
    private int land() {
        return odds(40) ? n(4) * 3 - 2 : n(6);
    }

    private int year() {
        return odds(60) ? n(4) - 1 : n(2);
    }

    private void same(String call, long want, long got) {
        calls++;
        log.append(call).append(" = ").append(got);
        if (want != got) {
            wrong = true;
            log.append(" but due is ").append(want);
        }
        log.append('\n');
    }

    private void same(String call, boolean want, boolean got) {
        same(call, want ? 1 : 0, got ? 1 : 0);
    }

    private void setUp() {
        for (int l = 0; l < 6; l++) {
            if (!odds(6)) {
                text(l, -1, law());
            }
        }
        for (int i = style == 3 ? 14 : n(10); i > 0; i--) {
            int a = n(5);
            text(a, a + 1 + n(5 - a), pact());
        }
        for (int y = 0; y < 2; y++) {
            for (int i = 2 + n(5); i > 0; i--) {
                night(y);
            }
            for (int i = style == 1 ? 7 : style == 2 ? 1 : style == 3 ? 4 : n(4); i > 0; i--) {
                home(y);
            }
            tie(y, 0);
            tie(y, 1);
            for (int i = n(odds(5) ? 14 : y == 1 && style == 2 ? 2 : 5); i >= 0; i--) {
                sum(y);
            }
        }
        for (int i = n(style == 2 ? 3 : 4); i > 0; i--) {
            turning();
        }
        for (int i = style == 2 ? 6 : n(4); i > 0; i--) {
            move();
            word();
        }
    }

    private void change() {
        switch (n(12)) {
            case 0 -> text(n(6), -1, law());
            case 1 -> {
                int a = n(6);
                text(a, odds(8) ? n(8) - 2 : Math.min(5, a + 1 + n(5)), pact());
            }
            case 2 -> night(year());
            case 3 -> home(year());
            case 4 -> tie(year(), n(2));
            case 5 -> sum(year());
            case 6 -> move();
            case 7 -> turning();
            case 8 -> word();
            case 9, 10 -> answer();
            default -> rawTape();
        }
    }

    private void night(int y) {
        int from = odds(30) ? n(400) - 20 : n(360);
        int to = odds(30) ? n(400) - 20 : Math.min(359, from + n(200));
        int l = odds(12) ? -1 : land();
        same("night(" + y + "," + from + "," + to + "," + l + ")", o.night(y, from, to, l), x.night(y, from, to, l));
    }

    private void home(int y) {
        int l = land();
        boolean is = !odds(style == 0 ? 3 : 8);
        same("home(" + y + "," + l + "," + is + ")", o.home(y, l, is), x.home(y, l, is));
    }

    private void tie(int y, int what) {
        int l = odds(5) ? -1 : land();
        int w = odds(30) ? n(5) - 2 : what;
        same("tie(" + y + "," + w + "," + l + ")", o.tie(y, w, l), x.tie(y, w, l));
    }

    private void sum(int y) {
        int kind = odds(30) ? n(9) - 1 : n(6);
        int real = odds(15) ? n(9) - 2 : n(5);
        int amount = odds(20) ? 999990 + n(15) : odds(20) ? n(3) - 1 : odds(2) ? 1000 * (1 + n(20)) : 1 + n(20000);
        int s = land();
        int p = land();
        same("sum(" + y + "," + kind + "," + real + "," + amount + "," + s + "," + p + ")",
            o.sum(y, kind, real, amount, s, p), x.sum(y, kind, real, amount, s, p));
    }

    private void move() {
        int night = odds(20) ? n(10) + 355 : n(360);
        int l = land();
        same("move(" + night + "," + l + ")", o.move(night, l), x.move(night, l));
    }

    private void turning() {
        int s = odds(10) ? n(14) - 1 : n(5);
        int p = land();
        int price = odds(20) ? 999998 + n(4) : odds(20) ? -n(2) : n(300);
        same("turning(" + s + "," + p + "," + price + ")", o.turning(s, p, price), x.turning(s, p, price));
    }

    private void word() {
        int a = land();
        int b = land();
        if (style == 2 && o.owes(0, 3) != 0 && !odds(4)) {
            a = Integer.numberOfTrailingZeros((int) o.owes(0, 3));
        }
        int sort = odds(20) ? n(9) - 2 : n(5);
        int kind = odds(15) ? n(10) - 2 : n(6);
        if (!heavy && o.words.size() >= 4) {
            return;
        }
        same("word(" + a + "," + b + "," + sort + "," + kind + ")", o.word(a, b, sort, kind), x.word(a, b, sort, kind));
    }

    private void answer() {
        int sort = odds(20) ? n(6) - 2 : n(3);
        int l = land();
        int i = odds(20) ? n(14) - 1 : n(3);
        long v = sort == 0 ? o.of(0, l, 6) : sort == 1 ? o.takes(0, i, l, 2) : o.owes(0, 0);
        v = odds(6) ? v + n(3) - 1 : v;
        same("answer(" + sort + "," + l + "," + i + "," + v + ")", o.answer(sort, l, i, v), x.answer(sort, l, i, v));
    }

    private void rawTape() {
        int[] a = {random.nextInt(), random.nextInt(), n(128), 0x6d696e65, random.nextInt()};
        same("feed", o.feed(a[0], a[1], a[2], a[3], a[4]), x.feed(a[0], a[1], a[2], a[3], a[4]));
        int end = n(40) - 4;
        same("end(" + end + ")", o.end(end), x.end(end));
        if (odds(2)) {
            same("text", o.text(0, -1), x.text(0, -1));
            same("fault(0)", o.fault(0), x.fault(0));
            same("fault(1)", o.fault(1), x.fault(1));
        }
    }

    private void text(int a, int b, String s) {
        String text = odds(5) ? spoilt(s) : s;
        same("end(0)", o.end(0), x.end(0));
        boolean room = true;
        for (int i = 0; i < text.length(); i += 20) {
            int[] f = Tests.five(text, i);
            long want = o.feed(f[0], f[1], f[2], f[3], f[4]);
            long got = x.feed(f[0], f[1], f[2], f[3], f[4]);
            room = room && want != -1;
            if (want != got) {
                same("feed", want, got);
            }
        }
        if (room) {
            same("end(" + text.length() + ")", o.end(text.length()), x.end(text.length()));
        }
        same("text(" + a + "," + b + ") of '" + text + "'", o.text(a, b), x.text(a, b));
        same("fault(0)", o.fault(0), x.fault(0));
        same("fault(1)", o.fault(1), x.fault(1));
    }

    private String spoilt(String s) {
        StringBuilder b = new StringBuilder(s);
        for (int i = 1 + n(2); i > 0 && b.length() > 0; i--) {
            int at = n(b.length());
            switch (n(4)) {
                case 0 -> b.deleteCharAt(at);
                case 1 -> b.insert(at, PIECES[n(PIECES.length)]);
                case 2 -> b.setLength(at);
                default -> b.replace(at, at + 1, PIECES[n(PIECES.length)]);
            }
        }
        return b.toString();
    }

    private String law() {
        if (style == 1 && !odds(8)) {
            String where = odds(12) ? "nights>60" : "home=1";
            String relief = odds(5) ? "" : odds(12) ? "relief free;" : "relief off;";
            return "mine " + where + ";step 0 " + 10 * (1 + n(4)) + ";" + relief + "take pay " + 5 * n(4) + ";";
        }
        if (style == 3 && !odds(8)) {
            String on = odds(2) ? "home=1" : odds(2) ? "nights>" + n(90) : odds(2) ? "bond=1 or birth=1" : "nights+20>most";
            return "mine " + on + ";step 0 " + n(50) + ";" + (odds(2) ? "relief off;" : "");
        }
        if (style == 2 && !odds(8)) {
            StringBuilder b = new StringBuilder("mine home=1;step 0 " + 5 * n(9) + ";");
            for (int k = 0; k < 6; k++) {
                b.append("take ").append(KINDS[k]).append(' ').append(n(k == 5 ? 12 : 50)).append(odds(3) ? "" : " when in=1").append(';');
            }
            return b.append(odds(2) ? "relief off;" : odds(2) ? "relief free;" : "").toString();
        }
        return anyLaw();
    }

    private String anyLaw() {
        StringBuilder b = new StringBuilder();
        int step = odds(4) ? 1 + n(50) : 0;
        for (int i = odds(10) ? 18 + n(4) : 2 + n(6); i > 0; i--) {
            switch (n(8)) {
                case 0, 1 -> b.append("mine ").append(odds(3) ? "home=1" : odds(3) ? "nights>" + n(200) : cond(0)).append(';');
                case 2, 3 -> {
                    b.append("take ").append(KINDS[n(6)]).append(' ').append(odds(3) ? expr(0) : "" + n(60));
                    b.append(odds(2) ? ";" : " when " + (odds(2) ? "in=1" : cond(0)) + ";");
                }
                case 4, 5 -> {
                    b.append("step ").append(step).append(' ').append(odds(3) ? 10 * n(11) : n(101)).append(';');
                    step += odds(30) ? 0 : 1 + n(8000);
                }
                case 6 -> b.append(odds(20) || b.indexOf("free") < 0 ? "free " + n(3000) + ";" : ";".repeat(n(15) / 14));
                default -> b.append(odds(20) || b.indexOf("relief") < 0
                    ? "relief " + new String[] {"no", "off", "off", "off", "free"}[n(5)] + ";" : "");
            }
            if (odds(12)) {
                b.append(odds(2) ? ' ' : '\n');
            }
        }
        return b.toString();
    }

    private String pact() {
        StringBuilder b = new StringBuilder();
        for (int i = odds(15) ? 19 + n(3) : n(6); i > 0; i--) {
            switch (style == 0 || odds(20) ? n(6) : style == 3 ? n(2) : 2 + n(4)) {
                case 0, 1 -> b.append("test ").append(new String[] {"home", "bond", "nights", "birth"}[n(4)]).append(';');
                case 2 -> b.append("only ").append(KINDS[n(6)]).append(';');
                case 3 -> b.append("top ").append(KINDS[n(6)]).append(' ').append(n(60)).append(';');
                case 4 -> b.append(odds(20) || b.indexOf("relief") < 0 ? odds(3) ? "relief free;" : "relief off;" : "");
                default -> b.append(odds(20) || b.indexOf("look") < 0 ? "look;" : "");
            }
        }
        return b.toString();
    }

    private String cond(int depth) {
        int what = n(depth > 8 ? 3 : 8);
        switch (what) {
            case 3: return "not " + cond(depth + 1);
            case 4: return "(" + cond(depth + 1) + ")";
            case 5: return cond(depth + 1) + " and " + cond(depth + 1);
            case 6: return cond(depth + 1) + " or " + cond(depth + 1);
            default: return expr(0) + "<=>".charAt(n(3)) + expr(0);
        }
    }

    private String expr(int depth) {
        String u = odds(2) ? FACTS[n(8)] : "" + (odds(10) ? n(1000000) : n(120));
        if (depth > 4 || odds(2)) {
            return u;
        }
        switch (n(4)) {
            case 0: return u + "*" + expr(depth + 1);
            case 1: return u + "/" + (odds(20) ? 0 : 1 + n(50)) + "+-*".charAt(n(3)) + expr(depth + 1);
            case 2: return u + "+" + expr(depth + 1);
            default: return u + "-" + expr(depth + 1);
        }
    }

    private void ask() {
        int y = year();
        int l = land();
        int m = land();
        int w = odds(25) ? n(30) - 10 : -5;
        int i = odds(10) ? n(14) - 1 : n(3);
        switch (n(14)) {
            case 0, 1 -> {
                int what = w > -5 ? w : n(8);
                same("of(" + y + "," + l + "," + what + ")", o.of(y, l, what), x.of(y, l, what));
            }
            case 2 -> {
                for (int k = 0; style == 3 && k < 6; k++) {
                    l = o.of(y, k, 5) == 1 && odds(2) ? k : l;
                    m = o.of(y, k, 5) == 1 && k != l ? k : m;
                }
                same("decides(" + y + "," + l + "," + m + ")", o.decides(y, l, m), x.decides(y, l, m));
            }
            case 3 -> {
                int base = odds(10) ? n(100000100) - 50 : odds(20) ? -1 : odds(20) ? 99999999 + n(2) : n(40000);
                same("tax(" + l + "," + base + ")", o.tax(l, base), x.tax(l, base));
            }
            case 4, 5, 6 -> {
                int what = w > -5 ? w : n(5);
                same("takes(" + y + "," + i + "," + l + "," + what + ")", o.takes(y, i, l, what), x.takes(y, i, l, what));
            }
            case 7 -> {
                int what = w > -5 ? w : n(6);
                same("owes(" + y + "," + what + ")", o.owes(y, what), x.owes(y, what));
            }
            case 8 -> {
                int what = w > -5 ? w : n(2);
                same("edge(" + y + "," + l + "," + m + "," + what + ")", o.edge(y, l, m, what), x.edge(y, l, m, what));
            }
            case 9 -> same("hangs(" + y + "," + l + ")", o.hangs(y, l), x.hangs(y, l));
            case 10 -> {
                int what = w > -5 ? w : odds(2) ? n(2) : 10 + n(o.moves.size() + 1);
                same("best(" + y + "," + what + ")", o.best(y, what), x.best(y, what));
            }
            case 11 -> {
                int what = w > -5 ? w : n(2);
                same("sly(" + what + ")", o.sly(what), x.sly(what));
                if (odds(4)) {
                    same("mend()", o.mend(), x.mend());
                }
            }
            case 12 -> {
                int what = w > -5 ? w : n(3);
                int kind = odds(10) ? n(8) - 1 : n(5);
                same("round(" + kind + "," + l + "," + m + "," + what + ")", o.round(kind, l, m, what), x.round(kind, l, m, what));
            }
            default -> {
                same("judged()", o.judged(), x.judged());
                int what = w > -5 ? w : n(6);
                same("look(" + what + ")", o.look(what), x.look(what));
            }
        }
    }
}
