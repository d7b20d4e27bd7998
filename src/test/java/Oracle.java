import java.math.BigInteger;
import java.util.ArrayList;
import java.util.HashMap;
import java.util.HashSet;
import java.util.List;
import java.util.Map;
import java.util.Set;
import java.util.function.Function;
import java.util.function.Predicate;

/** The document once more, in the plainest form and by other ways than the class goes: what it is compared with. */
final class Oracle {
    static final int NONE = -1;
    static final List<String> KINDS = List.of("pay", "let", "gain", "share", "pension", "through");
    static final List<String> TESTS = List.of("home", "bond", "nights", "birth");
    static final Set<String> KEYWORDS = Set.of("mine", "take", "when", "free", "step", "relief", "pay", "let", "gain",
            "share", "pension", "through", "no", "off", "or", "and", "not", "nights", "home", "bond", "birth", "most",
            "in", "pays", "amount", "test", "only", "top", "look");

    record Item(int kind, int real, int amount, int source, int payer) { }

    static final class Person {
        int[] where = new int[360];
        Set<Integer> homes = new HashSet<>();
        int bond = NONE;
        int birth = NONE;
        List<Item> items = new ArrayList<>();

        Person() {
            java.util.Arrays.fill(where, NONE);
        }

        Person copy() {
            Person p = new Person();
            p.where = where.clone();
            p.homes = new HashSet<>(homes);
            p.bond = bond;
            p.birth = birth;
            p.items = new ArrayList<>(items);
            return p;
        }

        int nights(int land) {
            int n = 0;
            for (int w : where) {
                n += w == land ? 1 : 0;
            }
            return n;
        }

        Map<String, Integer> facts(int land) {
            Map<String, Integer> m = new HashMap<>();
            m.put("nights", nights(land));
            m.put("home", homes.contains(land) ? 1 : 0);
            m.put("bond", bond == land ? 1 : 0);
            m.put("birth", birth == land ? 1 : 0);
            int most = 0;
            for (int l = 0; l < 6; l++) {
                most = l == land ? most : Math.max(most, nights(l));
            }
            m.put("most", most);
            m.put("in", 0);
            m.put("pays", 0);
            m.put("amount", 0);
            return m;
        }

        long base() {
            return items.stream().mapToLong(Item::amount).sum();
        }
    }

    record Take(int kind, Function<Map<String, Integer>, Integer> part, Predicate<Map<String, Integer>> when) { }

    static final class Statute {
        List<Predicate<Map<String, Integer>>> mine = new ArrayList<>();
        List<Take> takes = new ArrayList<>();
        Integer free;
        List<int[]> steps = new ArrayList<>();
        String relief;
        int lines;
    }

    static final class Treaty {
        List<String> tests = new ArrayList<>();
        Set<Integer> only = new HashSet<>();
        Map<Integer, Integer> tops = new HashMap<>();
        String relief;
        boolean look;
        int lines;

        Treaty copy() {
            Treaty t = new Treaty();
            t.tests = new ArrayList<>(tests);
            t.only = new HashSet<>(only);
            t.tops = new HashMap<>(tops);
            t.relief = relief;
            t.look = look;
            return t;
        }
    }

    @SuppressWarnings("serial")
    static final class Wrong extends RuntimeException {
        final int which;
        final int place;

        Wrong(int which, int place) {
            super(null, null, false, false);
            this.which = which;
            this.place = place;
        }
    }

    record Token(String text, int place) { }

    static final class Parser {
        final List<Token> tokens = new ArrayList<>();
        int at = 0;
        int open = 0;

        Parser(String s) {
            int i = 0;
            while (i < s.length()) {
                char c = s.charAt(i);
                int j = i + 1;
                if (c == ' ' || c == '\n') {
                    i++;
                    continue;
                }
                if (Character.isLetter(c) && c < 128) {
                    while (j < s.length() && s.charAt(j) < 128 && Character.isLetter(s.charAt(j))) {
                        j++;
                    }
                } else if (Character.isDigit(c)) {
                    while (j < s.length() && Character.isDigit(s.charAt(j))) {
                        j++;
                    }
                }
                String t = s.substring(i, j);
                boolean good = KEYWORDS.contains(t) || t.matches("[0-9]{1,6}") || t.matches("[-;+*/()<=>]");
                tokens.add(new Token(good ? t : "?", i));
                i = j;
            }
            tokens.add(new Token("", s.length()));
        }

        String now() {
            return tokens.get(at).text;
        }

        Wrong wrong(int which) {
            return new Wrong(which, tokens.get(at).place);
        }

        String any(String... which) {
            for (String w : which) {
                if (w.equals(now())) {
                    at++;
                    return w;
                }
            }
            throw wrong(1);
        }

        boolean numeric() {
            return now().matches("[0-9]+");
        }

        int number(int least, int most) {
            if (!numeric()) {
                throw wrong(1);
            }
            int n = Integer.parseInt(now());
            if (n < least || n > most) {
                throw wrong(2);
            }
            at++;
            return n;
        }

        Statute law() {
            Statute law = new Statute();
            while (!now().isEmpty()) {
                int start = at;
                String key = any("mine", "take", "free", "step", "relief");
                boolean twice = key.equals("free") && law.free != null || key.equals("relief") && law.relief != null;
                if (law.lines == 20 || twice) {
                    throw new Wrong(3, tokens.get(start).place);
                }
                switch (key) {
                    case "mine" -> law.mine.add(cond());
                    case "take" -> {
                        int kind = KINDS.indexOf(any(KINDS.toArray(new String[0])));
                        Function<Map<String, Integer>, Integer> e = expr();
                        Predicate<Map<String, Integer>> b = m -> true;
                        if (now().equals("when")) {
                            at++;
                            b = cond();
                        }
                        law.takes.add(new Take(kind, e, b));
                    }
                    case "free" -> law.free = number(0, 999999);
                    case "step" -> {
                        int least = law.steps.isEmpty() ? 0 : law.steps.get(law.steps.size() - 1)[0] + 1;
                        int from = number(least, 999999);
                        law.steps.add(new int[] {from, number(0, 100)});
                    }
                    default -> law.relief = any("no", "off", "free");
                }
                any(";");
                law.lines++;
            }
            return law;
        }

        Treaty pact() {
            Treaty pact = new Treaty();
            while (!now().isEmpty()) {
                int start = at;
                String key = any("test", "only", "top", "relief", "look");
                boolean twice = key.equals("look") && pact.look || key.equals("relief") && pact.relief != null;
                if (pact.lines == 20 || twice) {
                    throw new Wrong(3, tokens.get(start).place);
                }
                switch (key) {
                    case "test" -> pact.tests.add(any(TESTS.toArray(new String[0])));
                    case "only", "top" -> {
                        int kind = KINDS.indexOf(any(KINDS.toArray(new String[0])));
                        boolean again = key.equals("only") ? !pact.only.add(kind) : pact.tops.containsKey(kind);
                        if (again) {
                            at--;
                            throw wrong(3);
                        }
                        if (key.equals("top")) {
                            pact.tops.put(kind, number(0, 100));
                        }
                    }
                    case "relief" -> pact.relief = any("off", "free");
                    default -> pact.look = true;
                }
                any(";");
                pact.lines++;
            }
            return pact;
        }

        Predicate<Map<String, Integer>> cond() {
            Predicate<Map<String, Integer>> left = both();
            while (now().equals("or")) {
                at++;
                left = left.or(both());
            }
            return left;
        }

        Predicate<Map<String, Integer>> both() {
            Predicate<Map<String, Integer>> left = clause();
            while (now().equals("and")) {
                at++;
                left = left.and(clause());
            }
            return left;
        }

        Predicate<Map<String, Integer>> clause() {
            if (now().equals("not") || now().equals("(")) {
                if (open == 8) {
                    throw wrong(3);
                }
                open++;
                boolean not = now().equals("not");
                at++;
                Predicate<Map<String, Integer>> inner = not ? clause().negate() : cond();
                if (!not) {
                    any(")");
                }
                open--;
                return inner;
            }
            Function<Map<String, Integer>, Integer> l = expr();
            String op = any("<", "=", ">");
            Function<Map<String, Integer>, Integer> r = expr();
            return m -> {
                int d = Integer.compare(l.apply(m), r.apply(m));
                return op.equals("<") ? d < 0 : op.equals("=") ? d == 0 : d > 0;
            };
        }

        Function<Map<String, Integer>, Integer> expr() {
            Function<Map<String, Integer>, Integer> left = term();
            while (now().equals("+") || now().equals("-")) {
                boolean plus = any("+", "-").equals("+");
                Function<Map<String, Integer>, Integer> l = left;
                Function<Map<String, Integer>, Integer> r = term();
                left = m -> plus ? l.apply(m) + r.apply(m) : l.apply(m) - r.apply(m);
            }
            return left;
        }

        Function<Map<String, Integer>, Integer> term() {
            Function<Map<String, Integer>, Integer> left = unit();
            while (now().equals("*") || now().equals("/")) {
                boolean times = any("*", "/").equals("*");
                Function<Map<String, Integer>, Integer> l = left;
                if (times) {
                    Function<Map<String, Integer>, Integer> r = unit();
                    left = m -> l.apply(m) * r.apply(m);
                } else {
                    int by = number(1, 999999);
                    left = m -> l.apply(m) / by;
                }
            }
            return left;
        }

        Function<Map<String, Integer>, Integer> unit() {
            if (numeric()) {
                int n = number(0, 999999);
                return m -> n;
            }
            String fact = any("nights", "home", "bond", "birth", "most", "in", "pays", "amount");
            return m -> m.get(fact);
        }
    }

    /** A fraction. */
    record Part(BigInteger up, BigInteger down) {
        static Part of(long n) {
            return new Part(BigInteger.valueOf(n), BigInteger.ONE);
        }

        Part fit() {
            BigInteger g = up.gcd(down);
            BigInteger d = g.signum() == 0 ? BigInteger.ONE : g;
            d = down.signum() < 0 ? d.negate() : d;
            return new Part(up.divide(d), down.divide(d));
        }

        Part minus(Part o) {
            return new Part(up.multiply(o.down).subtract(o.up.multiply(down)), down.multiply(o.down)).fit();
        }

        Part times(Part o) {
            return new Part(up.multiply(o.up), down.multiply(o.down)).fit();
        }

        Part by(Part o) {
            return new Part(up.multiply(o.down), down.multiply(o.up)).fit();
        }

        int sign() {
            return up.signum();
        }
    }

    final Person[] people = {new Person(), new Person()};
    final Statute[] statutes = new Statute[6];
    Map<Integer, Treaty> treaties = new HashMap<>();
    final List<int[]> moves = new ArrayList<>();
    final List<int[]> turnings = new ArrayList<>();
    final List<int[]> words = new ArrayList<>();
    final List<long[]> claims = new ArrayList<>();
    StringBuilder tape = new StringBuilder();
    int fault = 0;
    int place = NONE;

    Oracle() {
        for (int l = 0; l < 6; l++) {
            statutes[l] = new Statute();
        }
    }

    static boolean land(int l) {
        return l >= 0 && l < 6;
    }

    static boolean year(int y) {
        return y == 0 || y == 1;
    }

    static int key(int a, int b) {
        return Math.min(a, b) * 6 + Math.max(a, b);
    }

    Treaty treaty(int a, int b) {
        return treaties.getOrDefault(key(a, b), new Treaty());
    }

    boolean night(int y, int from, int to, int l) {
        if (!year(y) || from < 0 || to > 359 || from > to || l != NONE && !land(l)) {
            return false;
        }
        java.util.Arrays.fill(people[y].where, from, to + 1, l);
        return true;
    }

    boolean home(int y, int l, boolean is) {
        if (!year(y) || !land(l)) {
            return false;
        }
        if (is) {
            people[y].homes.add(l);
        } else {
            people[y].homes.remove(l);
        }
        return true;
    }

    boolean tie(int y, int what, int l) {
        if (!year(y) || what != 0 && what != 1 || l != NONE && !land(l)) {
            return false;
        }
        if (what == 0) {
            people[y].bond = l;
        } else {
            people[y].birth = l;
        }
        return true;
    }

    int sum(int y, int kind, int real, int amount, int source, int payer) {
        boolean good = year(y) && kind >= 0 && kind <= 5 && amount >= 1 && amount <= 999999 && land(source) && land(payer);
        good = good && (kind != 5 || real >= 0 && real <= 4);
        if (!good || people[y].items.size() == 12) {
            return NONE;
        }
        people[y].items.add(new Item(kind, kind == 5 ? real : kind, amount, source, payer));
        return people[y].items.size() - 1;
    }

    int feed(int a, int b, int c, int d, int e) {
        if (tape.length() > 580) {
            return NONE;
        }
        for (int n : new int[] {a, b, c, d, e}) {
            tape.append((char) (n >>> 24)).append((char) (n >> 16 & 255)).append((char) (n >> 8 & 255)).append((char) (n & 255));
        }
        return tape.length();
    }

    boolean end(int n) {
        if (n < 0 || n > tape.length()) {
            return false;
        }
        tape.setLength(n);
        return true;
    }

    int text(int a, int b) {
        String s = tape.toString();
        tape = new StringBuilder();
        fault = 0;
        place = NONE;
        try {
            if (land(a) && b == NONE) {
                statutes[a] = new Parser(s).law();
                return statutes[a].lines;
            }
            if (land(a) && land(b) && a < b) {
                Treaty t = new Parser(s).pact();
                treaties.put(key(a, b), t);
                return t.lines;
            }
        } catch (Wrong w) {
            fault = w.which;
            place = w.place;
        }
        return NONE;
    }

    int fault(int what) {
        return what == 0 ? fault : what == 1 ? place : NONE;
    }

    boolean says(Person p, int l) {
        Map<String, Integer> f = p.facts(l);
        return statutes[l].mine.stream().anyMatch(b -> b.test(f));
    }

    /** The test that decides, or NONE; the winner is in[0]. */
    int deciding(Person p, int a, int b, int[] winner) {
        if (a == b || !says(p, a) || !says(p, b)) {
            return NONE;
        }
        List<String> tests = treaty(a, b).tests;
        for (int t = 0; t < tests.size(); t++) {
            int va = p.facts(a).get(tests.get(t));
            int vb = p.facts(b).get(tests.get(t));
            if (va != vb) {
                winner[0] = va > vb ? a : b;
                return t;
            }
        }
        return NONE;
    }

    int givesWay(Person p, int l) {
        for (int m = 0; m < 6; m++) {
            int[] winner = new int[1];
            if (m != l && deciding(p, l, m, winner) != NONE && winner[0] == m) {
                return m;
            }
        }
        return NONE;
    }

    Set<Integer> his(Person p) {
        Set<Integer> set = new java.util.TreeSet<>();
        for (int l = 0; l < 6; l++) {
            if (says(p, l) && givesWay(p, l) == NONE) {
                set.add(l);
            }
        }
        return set;
    }

    int of(int y, int l, int what) {
        if (!year(y) || !land(l)) {
            return NONE;
        }
        Person p = people[y];
        return switch (what) {
            case 0 -> p.nights(l);
            case 1 -> p.homes.contains(l) ? 1 : 0;
            case 2 -> p.bond == l ? 1 : 0;
            case 3 -> p.birth == l ? 1 : 0;
            case 4 -> p.facts(l).get("most");
            case 5 -> says(p, l) ? 1 : 0;
            case 6 -> his(p).contains(l) ? 1 : 0;
            case 7 -> givesWay(p, l);
            default -> NONE;
        };
    }

    int decides(int y, int a, int b) {
        return year(y) && land(a) && land(b) ? deciding(people[y], a, b, new int[1]) : NONE;
    }

    long tax(int l, int base) {
        return land(l) && base >= 0 && base <= 99999999 ? bySteps(l, base) : NONE;
    }

    /** Coin by coin's share: each part of the base between two steps. */
    long bySteps(int l, long base) {
        Statute s = statutes[l];
        long net = Math.max(0, base - (s.free == null ? 0 : s.free));
        long all = 0;
        long upTo = net;
        for (int i = s.steps.size() - 1; i >= 0; i--) {
            int[] step = s.steps.get(i);
            if (upTo > step[0]) {
                all += (upTo - step[0]) * step[1];
                upTo = step[0];
            }
        }
        return all;
    }

    String relief(int l, int other) {
        String r = treaty(l, other).relief;
        r = r == null ? statutes[l].relief : r;
        return r == null ? "no" : r;
    }

    int seen(Set<Integer> his, Item item, int l) {
        for (int m = 0; m < 6; m++) {
            if (m != l && treaty(l, m).look && (his.contains(l) || his.contains(m))) {
                return item.real;
            }
        }
        return item.kind;
    }

    boolean freed(Set<Integer> his, Item item, int l) {
        return his.contains(l) && item.source != l && relief(l, item.source).equals("free");
    }

    long ahead(Person p, Set<Integer> his, Item item, int l) {
        if (his.contains(l)) {
            return freed(his, item, l) ? 0
                    : BigInteger.valueOf(bySteps(l, p.base())).multiply(BigInteger.valueOf(item.amount)).divide(BigInteger.valueOf(p.base())).longValue();
        }
        int kind = seen(his, item, l);
        Map<String, Integer> f = p.facts(l);
        f.put("in", item.source == l ? 1 : 0);
        f.put("pays", item.payer == l ? 1 : 0);
        f.put("amount", item.amount);
        int part = first(l, kind, f);
        for (int h : his) {
            Treaty t = treaty(h, l);
            part = t.only.contains(kind) ? 0 : Math.min(part, t.tops.getOrDefault(kind, 100));
        }
        return (long) item.amount * part;
    }

    int first(int l, int kind, Map<String, Integer> f) {
        for (Take t : statutes[l].takes) {
            if (t.kind == kind && t.when.test(f)) {
                int v = t.part.apply(f);
                return v < 0 ? 0 : Math.min(v, 100);
            }
        }
        return 0;
    }

    /** TAKEN by each LAND, and behind them how many ANSWERS there are. */
    long[] taken(Person p, Item item) {
        Set<Integer> his = his(p);
        long[] ahead = new long[6];
        for (int l = 0; l < 6; l++) {
            ahead[l] = ahead(p, his, item, l);
        }
        long[] told = null;
        int answers = 0;
        for (int set = 0; set < 64; set++) {
            Part[] x = solve(his, ahead, set);
            if (x != null) {
                answers++;
                if (told == null) {
                    told = new long[7];
                    for (int l = 0; l < 6; l++) {
                        told[l] = x[l].up.divide(x[l].down).longValue();
                    }
                }
            }
        }
        told = told == null ? java.util.Arrays.copyOf(ahead, 7) : told;
        told[6] = answers;
        return told;
    }

    Part[] solve(Set<Integer> his, long[] ahead, int set) {
        for (int l = 0; l < 6; l++) {
            if ((set >> l & 1) == 1 && !his.contains(l)) {
                return null;
            }
        }
        Part[][] m = new Part[6][7];
        for (int l = 0; l < 6; l++) {
            for (int k = 0; k < 6; k++) {
                boolean counts = (set >> l & 1) == 1 && k != l && relief(l, k).equals("off");
                m[l][k] = Part.of(k == l || counts ? 1 : 0);
            }
            m[l][6] = Part.of(his.contains(l) && (set >> l & 1) == 0 ? 0 : ahead[l]);
        }
        Part[] x = gauss(m);
        if (x == null) {
            return null;
        }
        for (int l : his) {
            Part left = Part.of(ahead[l]);
            for (int k = 0; k < 6; k++) {
                if (k != l && relief(l, k).equals("off")) {
                    left = left.minus(x[k]);
                }
            }
            boolean in = (set >> l & 1) == 1;
            if (in ? x[l].sign() <= 0 : left.sign() > 0) {
                return null;
            }
        }
        return x;
    }

    static Part[] gauss(Part[][] m) {
        for (int c = 0; c < 6; c++) {
            int r = c;
            while (r < 6 && m[r][c].sign() == 0) {
                r++;
            }
            if (r == 6) {
                return null;
            }
            Part[] row = m[r];
            m[r] = m[c];
            m[c] = row;
            for (int i = 0; i < 6; i++) {
                if (i != c) {
                    Part f = m[i][c].by(m[c][c]);
                    for (int j = c; j < 7; j++) {
                        m[i][j] = m[i][j].minus(f.times(m[c][j]));
                    }
                }
            }
        }
        Part[] x = new Part[6];
        for (int i = 0; i < 6; i++) {
            x[i] = m[i][6].by(m[i][i]);
        }
        return x;
    }

    long takes(int y, int sum, int l, int what) {
        if (!year(y) || sum < 0 || sum >= people[y].items.size() || what < 0 || what > 4 || what != 3 && !land(l)) {
            return NONE;
        }
        Person p = people[y];
        Item item = p.items.get(sum);
        return switch (what) {
            case 0 -> seen(his(p), item, l);
            case 1 -> ahead(p, his(p), item, l);
            case 2 -> taken(p, item)[l];
            case 3 -> taken(p, item)[6];
            default -> freed(his(p), item, l) ? 1 : 0;
        };
    }

    long owes(Person p) {
        long all = 0;
        for (Item item : p.items) {
            long[] t = taken(p, item);
            for (int l = 0; l < 6; l++) {
                all += t[l];
            }
        }
        return all;
    }

    long owes(int y, int what) {
        if (!year(y) || what < 0 || what > 5) {
            return NONE;
        }
        Person p = people[y];
        if (what == 0) {
            return owes(p);
        }
        long set = 0;
        if (what < 3) {
            for (int i = 0; i < p.items.size(); i++) {
                long[] t = taken(p, p.items.get(i));
                long takers = java.util.stream.IntStream.range(0, 6).filter(l -> t[l] > 0).count();
                set |= what == 1 && takers == 0 || what == 2 && takers >= 2 ? 1L << i : 0;
            }
            return set;
        }
        if (what == 3) {
            for (int l : his(p)) {
                set |= 1L << l;
            }
            return set;
        }
        return what == 4 ? p.base() : p.nights(NONE);
    }

    long edge(int y, int l, int other, int what) {
        if (what != 0 && what != 1) {
            return NONE;
        }
        long none = what == 0 ? NONE : NONE - 999999999999L;
        if (!year(y) || !land(l) || !land(other) || l == other) {
            return none;
        }
        Person p = people[y];
        for (int n = 1; n <= 360; n++) {
            for (int way = 0; way < 2; way++) {
                Person q = shifted(p, way == 0 ? l : other, way == 0 ? other : l, n);
                if (q != null && says(q, l) != says(p, l)) {
                    return what == 0 ? n : owes(q) - owes(p);
                }
            }
        }
        return none;
    }

    static Person shifted(Person p, int from, int to, int n) {
        if (p.nights(from) < n) {
            return null;
        }
        Person q = p.copy();
        for (int i = 0, left = n; left > 0; i++) {
            if (q.where[i] == from) {
                q.where[i] = to;
                left--;
            }
        }
        return q;
    }

    int hangs(int y, int l) {
        if (!year(y) || !land(l)) {
            return NONE;
        }
        int all = people[y].nights(NONE);
        Set<Boolean> found = new HashSet<>();
        for (int j = 0; j <= all; j++) {
            for (int other = 0; other < 6; other++) {
                if (other != l) {
                    Person q = shifted(people[y], NONE, l, j);
                    found.add(says(shifted(q, NONE, other, all - j), l));
                }
            }
        }
        return found.size() == 2 ? 2 : found.contains(true) ? 1 : 0;
    }

    int move(int night, int l) {
        if (night < 0 || night > 359 || !land(l) || moves.size() == 20) {
            return NONE;
        }
        moves.add(new int[] {night, l});
        return moves.size() - 1;
    }

    long owesMoved(int y, int k) {
        Person q = people[y].copy();
        java.util.Arrays.fill(q.where, moves.get(k)[0], 360, moves.get(k)[1]);
        q.homes = new HashSet<>(Set.of(moves.get(k)[1]));
        return owes(q);
    }

    long best(int y, int what) {
        if (!year(y)) {
            return NONE;
        }
        if (what >= 10 && what < 10 + moves.size()) {
            return owesMoved(y, what - 10);
        }
        int which = NONE;
        long least = owes(people[y]);
        for (int k = 0; k < moves.size(); k++) {
            if (owesMoved(y, k) < least) {
                least = owesMoved(y, k);
                which = k;
            }
        }
        return what == 0 ? which : what == 1 ? least : NONE;
    }

    int turning(int sum, int payer, int price) {
        if (sum < 0 || sum >= people[0].items.size() || !land(payer) || price < 0 || price > 999999 || turnings.size() == 6) {
            return NONE;
        }
        turnings.add(new int[] {sum, payer, price});
        return turnings.size() - 1;
    }

    /** What he owes with a set of TURNINGS and their PRICES, or null if two are for one SUM. */
    Long owesTurned(int set) {
        Person q = people[0].copy();
        Set<Integer> sums = new HashSet<>();
        long prices = 0;
        for (int k = 0; k < turnings.size(); k++) {
            if ((set >> k & 1) == 1) {
                int[] t = turnings.get(k);
                if (!sums.add(t[0])) {
                    return null;
                }
                Item i = q.items.get(t[0]);
                q.items.set(t[0], new Item(5, i.real, i.amount, t[1], t[1]));
                prices += t[2] * 100L;
            }
        }
        return owes(q) + prices;
    }

    long sly(int what) {
        int which = 0;
        long least = owesTurned(0);
        for (int set = 1; set < 1 << turnings.size(); set++) {
            Long owed = owesTurned(set);
            if (owed != null && owed < least) {
                least = owed;
                which = set;
            }
        }
        return what == 0 ? which : what == 1 ? least : NONE;
    }

    int word(int a, int b, int sort, int kind) {
        boolean good = land(a) && land(b) && a != b && sort >= 0 && sort <= 4;
        good = good && (sort != 1 && sort != 2 || kind >= 0 && kind <= 5);
        if (!good || words.size() == 6) {
            return NONE;
        }
        words.add(new int[] {a, b, sort, kind});
        return words.size() - 1;
    }

    int mend() {
        Map<Integer, Treaty> plain = treaties;
        long limit = owes(people[1]);
        int best = NONE;
        for (int set = 0; set < 1 << words.size(); set++) {
            if (best != NONE && Integer.bitCount(set) >= Integer.bitCount(best)) {
                continue;
            }
            treaties = new HashMap<>(plain);
            for (int k = 0; k < words.size(); k++) {
                if ((set >> k & 1) == 1) {
                    int[] w = words.get(k);
                    Treaty t = treaty(w[0], w[1]).copy();
                    switch (w[2]) {
                        case 0 -> t.look = true;
                        case 1 -> t.only.add(w[3]);
                        case 2 -> t.tops.put(w[3], 0);
                        case 3 -> t.relief = "off";
                        default -> t.relief = "free";
                    }
                    treaties.put(key(w[0], w[1]), t);
                }
            }
            if (sly(0) == 0 && owes(people[1]) <= limit) {
                best = set;
            }
        }
        treaties = plain;
        return best;
    }

    int leg(int kind, int from, int to) {
        Map<String, Integer> f = new Person().facts(from);
        f.put("most", 0);
        f.put("in", 1);
        f.put("pays", 1);
        f.put("amount", 100);
        Treaty t = treaty(from, to);
        return t.only.contains(kind) ? 0 : Math.min(first(from, kind, f), t.tops.getOrDefault(kind, 100));
    }

    int round(int kind, int source, int to, int what) {
        if (kind < 0 || kind > 4 || !land(source) || !land(to) || source == to) {
            return NONE;
        }
        int straight = leg(kind, source, to);
        int third = NONE;
        int least = straight;
        for (int l = 5; l >= 0; l--) {
            if (l != source && l != to) {
                int both = leg(kind, source, l) + leg(kind, l, to);
                if (both < straight && both <= least) {
                    least = both;
                    third = l;
                }
            }
        }
        return what == 0 ? straight : what == 1 ? third : what == 2 ? least : NONE;
    }

    int answer(int sort, int l, int i, long v) {
        boolean good = switch (sort) {
            case 0 -> land(l) && (v == 0 || v == 1);
            case 1 -> land(l) && i >= 0 && i < people[0].items.size();
            case 2 -> true;
            default -> false;
        };
        if (!good || claims.size() == 10) {
            return NONE;
        }
        claims.add(new long[] {sort, l, i, v});
        return claims.size() - 1;
    }

    int judged() {
        for (int k = 0; k < claims.size(); k++) {
            long[] c = claims.get(k);
            long is = c[0] == 0 ? of(0, (int) c[1], 6) : c[0] == 1 ? takes(0, (int) c[2], (int) c[1], 2) : owes(0, 0);
            if (is != c[3]) {
                return k;
            }
        }
        return NONE;
    }

    int look(int what) {
        return switch (what) {
            case 0 -> people[0].items.size();
            case 1 -> people[1].items.size();
            case 2 -> moves.size();
            case 3 -> turnings.size();
            case 4 -> words.size();
            case 5 -> claims.size();
            default -> NONE;
        };
    }
}
