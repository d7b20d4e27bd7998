/** Where somebody is taxed: two years of his, the laws of six lands, their pacts, and what follows from them. */
public final class FiveLands {
    public static final int NONE = -1;

    private static final int LANDS = 6;
    private static final int PAIRS = 15;
    private static final int YEARS = 2;
    private static final int NIGHTS = 360;
    private static final int SUMS = 12;
    private static final int AMOUNT_LIMIT = 999999;
    private static final int BASE_LIMIT = 99999999;
    private static final int MOVES = 20;
    private static final int TURNINGS = 6;
    private static final int WORDS = 6;
    private static final int ANSWERS = 10;

    private static final int TAPE = 600;
    private static final int LINES = 20;
    private static final int DEEPEST = 8;
    private static final int PILE = 64;
    private static final int WHOLE = 100;

    private static final int KINDS = 6;
    private static final int THROUGH = 5;
    private static final int MINE_RULE = 6;

    private static final int UNTOLD = 0;
    private static final int OFF = 1;
    private static final int FREE = 2;

    private static final int FACTS = 8;
    private static final int IN = 5;
    private static final int PAYS = 6;
    private static final int AMOUNT = 7;

    // The KEYWORDS by their numbers: the first eight are what laws ask, the next six the KINDS.
    private static final String KEYWORDS = "nights home bond birth most in pays amount pay let gain share pension through mine take free step relief when no off or and not test only top look ";
    private static final int KEY_NIGHTS = 0;
    private static final int KEY_BIRTH = 3;
    private static final int KEY_PAY = 8;
    private static final int KEY_THROUGH = 13;
    private static final int KEY_MINE = 14;
    private static final int KEY_TAKE = 15;
    private static final int KEY_FREE = 16;
    private static final int KEY_STEP = 17;
    private static final int KEY_RELIEF = 18;
    private static final int KEY_WHEN = 19;
    private static final int KEY_NO = 20;
    private static final int KEY_OFF = 21;
    private static final int KEY_OR = 22;
    private static final int KEY_AND = 23;
    private static final int KEY_NOT = 24;
    private static final int KEY_TEST = 25;
    private static final int KEY_ONLY = 26;
    private static final int KEY_TOP = 27;
    private static final int KEY_LOOK = 28;
    private static final int KEYS = 29;
    private static final int LONGEST_KEY = 7;
    private static final int LONGEST_NUMBER = 6;
    // Signs count as their own characters, which lie between the KEYWORDS and these.
    private static final int NUMBER = 100;
    private static final int END = 101;
    private static final int NOTHING = 102;

    // Codes from 0 on are numbers; below them what is asked (-1 - fact), then what joins.
    private static final int CODE_ADD = -9;
    private static final int CODE_SUB = -10;
    private static final int CODE_MUL = -11;
    private static final int CODE_DIV = -12;
    private static final int CODE_LESS = -13;
    private static final int CODE_SAME = -14;
    private static final int CODE_MORE = -15;
    private static final int CODE_AND = -16;
    private static final int CODE_OR = -17;
    private static final int CODE_NOT = -18;

    private static final long NO_EDGE = NONE - 999999999999L;

    private final Year[] years = new Year[YEARS];
    private final Levy levy = new Levy();
    private final Law[] laws = levy.laws;
    private final Pact[] pacts = new Pact[PAIRS];
    private final Pact[] amended = new Pact[PAIRS];
    private final Plans plans = new Plans();
    private final Claims claims = new Claims();
    private final int[] tape = new int[TAPE];
    private final Reader reader = new Reader();
    private final Stay trial = new Stay();
    private final Sum turned = new Sum();
    private Law spareLaw = new Law();
    private Pact sparePact = new Pact();
    private int taped;

    public FiveLands() {
        for (int y = 0; y < YEARS; y++) {
            years[y] = new Year();
        }
        for (int p = 0; p < PAIRS; p++) {
            pacts[p] = new Pact();
            amended[p] = new Pact();
        }
    }

    public boolean night(int y, int from, int to, int land) {
        if (!isYear(y) || from < 0 || to < from || to >= NIGHTS || !isLandOrNone(land)) {
            return false;
        }
        years[y].spend(from, to, land);
        return true;
    }

    public boolean home(int y, int land, boolean is) {
        if (!isYear(y) || !isLand(land)) {
            return false;
        }
        Stay stay = years[y].stay;
        stay.homes = is ? stay.homes | 1 << land : stay.homes & ~(1 << land);
        return true;
    }

    public boolean tie(int y, int what, int land) {
        if (!isYear(y) || !isLandOrNone(land) || what < 0 || what > 1) {
            return false;
        }
        if (what == 0) {
            years[y].stay.bond = land;
        } else {
            years[y].stay.birth = land;
        }
        return true;
    }

    public int sum(int y, int kind, int real, int amount, int source, int payer) {
        if (!isYear(y) || kind < 0 || kind >= KINDS || kind == THROUGH && (real < 0 || real >= THROUGH)) {
            return NONE;
        }
        Year year = years[y];
        if (amount < 1 || amount > AMOUNT_LIMIT || !isLand(source) || !isLand(payer) || year.count >= SUMS) {
            return NONE;
        }
        Sum sum = year.sums[year.count];
        sum.kind = kind;
        sum.real = kind == THROUGH ? real : kind;
        sum.amount = amount;
        sum.source = source;
        sum.payer = payer;
        year.count++;
        return year.count - 1;
    }

    public int feed(int a, int b, int c, int d, int e) {
        if (taped + 20 > TAPE) {
            return NONE;
        }
        putBytes(a);
        putBytes(b);
        putBytes(c);
        putBytes(d);
        putBytes(e);
        return taped;
    }

    private void putBytes(int four) {
        for (int shift = 24; shift >= 0 && taped < TAPE; shift -= 8) {
            tape[taped] = four >>> shift & 255;
            taped++;
        }
    }

    public boolean end(int n) {
        if (n < 0 || n > taped) {
            return false;
        }
        taped = n;
        return true;
    }

    public int text(int a, int b) {
        int length = taped;
        taped = 0;
        reader.forget();
        int lines = NONE;
        if (isLand(a) && b == NONE) {
            lines = reader.readLaw(tape, length, spareLaw);
            if (lines != NONE) {
                Law old = laws[a];
                laws[a] = spareLaw;
                spareLaw = old;
            }
        } else if (isLand(a) && isLand(b) && a < b) {
            lines = reader.readPact(tape, length, sparePact);
            if (lines != NONE) {
                Pact old = pacts[pair(a, b)];
                pacts[pair(a, b)] = sparePact;
                sparePact = old;
            }
        }
        return lines;
    }

    public int fault(int what) {
        if (what == 0) {
            return reader.fault;
        }
        return what == 1 ? reader.place : NONE;
    }

    public int of(int y, int land, int what) {
        if (!isYear(y) || !isLand(land) || what < 0 || what > 7) {
            return NONE;
        }
        hear(y);
        int[] facts = levy.facts[land];
        if (what <= 4) {
            return facts[what];
        }
        if (what == 5) {
            return has(levy.says, land) ? 1 : 0;
        }
        if (what == 6) {
            return has(levy.his, land) ? 1 : 0;
        }
        return least(levy.above[land]);
    }

    /** The least LAND of a set, or NONE. */
    private static int least(int set) {
        for (int l = 0; l < LANDS; l++) {
            if (has(set, l)) {
                return l;
            }
        }
        return NONE;
    }

    public int decides(int y, int a, int b) {
        if (!isYear(y) || !isLand(a) || !isLand(b) || a == b) {
            return NONE;
        }
        hear(y);
        if (!has(levy.says, a) || !has(levy.says, b)) {
            return NONE;
        }
        return levy.deciding(pacts[pair(a, b)], a, b);
    }

    public long tax(int land, int base) {
        if (!isLand(land) || base < 0 || base > BASE_LIMIT) {
            return NONE;
        }
        return laws[land].bySteps(base);
    }

    public long takes(int y, int sum, int land, int what) {
        if (!isYear(y) || !years[y].tells(sum) || what < 0 || what > 4 || what != 3 && !isLand(land)) {
            return NONE;
        }
        hear(y);
        Sum asked = years[y].sums[sum];
        if (what == 0) {
            return levy.seen(asked, land);
        }
        if (what == 4) {
            return levy.freed(asked, land) ? 1 : 0;
        }
        levy.settle(asked);
        if (what == 3) {
            return levy.answers;
        }
        return what == 1 ? levy.ahead[land] : levy.taken[land];
    }

    public long owes(int y, int what) {
        if (!isYear(y) || what < 0 || what > 5) {
            return NONE;
        }
        Year year = years[y];
        if (what == 4) {
            return year.base();
        }
        if (what == 5) {
            return year.stay.rubbed;
        }
        hear(y);
        if (what == 3) {
            return levy.his;
        }
        return what == 0 ? levy.settleAll(year) : takenBy(year, what == 1 ? 0 : 2, what == 1 ? 0 : LANDS);
    }

    /** The set of the SUMS of which as many LANDS take something as told. */
    private int takenBy(Year year, int least, int most) {
        int set = 0;
        for (int i = 0; i < year.count; i++) {
            levy.settle(year.sums[i]);
            int takers = levy.takers();
            if (takers >= least && takers <= most) {
                set |= 1 << i;
            }
        }
        return set;
    }

    public long edge(int y, int land, int other, int what) {
        if (what < 0 || what > 1) {
            return NONE;
        }
        int moved = isYear(y) && isLand(land) && isLand(other) && land != other ? edgeNights(y, land, other) : 0;
        if (moved == 0) {
            return what == 0 ? NONE : NO_EDGE;
        }
        if (what == 0) {
            return Math.abs(moved);
        }
        Year year = years[y];
        hear(y);
        long before = levy.settleAll(year);
        trial.become(year.stay);
        trial.shift(land, other, moved);
        levy.hear(trial, pacts, year.base());
        return levy.settleAll(year) - before;
    }

    /** The NIGHTS of an EDGE, below 0 if they go from the other LAND to the first one; 0: there is none. */
    private int edgeNights(int y, int land, int other) {
        Stay stay = years[y].stay;
        boolean now = levy.saysSo(stay, land);
        for (int n = 1; n <= NIGHTS; n++) {
            if (n <= stay.nights[land] && saysAfter(stay, land, other, n) != now) {
                return n;
            }
            if (n <= stay.nights[other] && saysAfter(stay, land, other, -n) != now) {
                return -n;
            }
        }
        return 0;
    }

    private boolean saysAfter(Stay stay, int land, int other, int moved) {
        trial.become(stay);
        trial.shift(land, other, moved);
        return levy.saysSo(trial, land);
    }

    public int hangs(int y, int land) {
        if (!isYear(y) || !isLand(land)) {
            return NONE;
        }
        Stay stay = years[y].stay;
        boolean never = true;
        boolean always = true;
        for (int j = 0; j <= stay.rubbed && (never || always); j++) {
            for (int other = 0; other < LANDS; other++) {
                if (other != land) {
                    boolean so = saysIfTold(stay, land, other, j);
                    never = never && !so;
                    always = always && so;
                }
            }
        }
        if (never) {
            return 0;
        }
        return always ? 1 : 2;
    }

    private boolean saysIfTold(Stay stay, int land, int other, int here) {
        trial.become(stay);
        trial.nights[land] += here;
        trial.nights[other] += stay.rubbed - here;
        return levy.saysSo(trial, land);
    }

    public int move(int night, int land) {
        if (night < 0 || night >= NIGHTS || !isLand(land) || plans.moves >= MOVES) {
            return NONE;
        }
        plans.moveNight[plans.moves] = night;
        plans.moveLand[plans.moves] = land;
        plans.moves++;
        return plans.moves - 1;
    }

    public long best(int y, int what) {
        if (!isYear(y)) {
            return NONE;
        }
        if (what >= 10 && what - 10 < plans.moves) {
            return owesMoved(years[y], what - 10);
        }
        if (what != 0 && what != 1) {
            return NONE;
        }
        hear(y);
        long least = levy.settleAll(years[y]);
        int which = NONE;
        for (int k = 0; k < plans.moves; k++) {
            long owed = owesMoved(years[y], k);
            if (owed < least) {
                least = owed;
                which = k;
            }
        }
        return what == 0 ? which : least;
    }

    private long owesMoved(Year year, int k) {
        if (k < 0 || k >= plans.moves) {
            return NONE;
        }
        year.moved(plans.moveNight[k], plans.moveLand[k], trial);
        levy.hear(trial, pacts, year.base());
        return levy.settleAll(year);
    }

    public int turning(int sum, int payer, int price) {
        if (!years[0].tells(sum) || !isLand(payer) || price < 0 || price > AMOUNT_LIMIT || plans.turnings >= TURNINGS) {
            return NONE;
        }
        plans.turnSum[plans.turnings] = sum;
        plans.turnLand[plans.turnings] = payer;
        plans.turnPrice[plans.turnings] = price;
        plans.turnings++;
        return plans.turnings - 1;
    }

    public long sly(int what) {
        if (what < 0 || what > 1) {
            return NONE;
        }
        hear(0);
        // What is owed of a SUM hangs on no other SUM's TURNING: so each SUM's best one makes the best set.
        int set = 0;
        long all = 0;
        for (int i = 0; i < years[0].count; i++) {
            long least = levy.settle(years[0].sums[i]);
            int which = NONE;
            for (int k = 0; k < plans.turnings; k++) {
                if (plans.turnSum[k] == i) {
                    long cost = levy.settle(turn(k)) + plans.price(k);
                    if (cost < least) {
                        least = cost;
                        which = k;
                    }
                }
            }
            all += least;
            set = which == NONE ? set : set | 1 << which;
        }
        return what == 0 ? set : all;
    }

    /** The SUM of a TURNING as it is when turned. */
    private Sum turn(int k) {
        Sum sum = years[0].sums[plans.turnSum[k]];
        turned.kind = THROUGH;
        turned.real = sum.real;
        turned.amount = sum.amount;
        turned.source = plans.turnLand[k];
        turned.payer = plans.turnLand[k];
        return turned;
    }

    public int word(int a, int b, int sort, int kind) {
        if (!isLand(a) || !isLand(b) || a == b || sort < 0 || sort > 4 || plans.words >= WORDS) {
            return NONE;
        }
        if ((sort == 1 || sort == 2) && (kind < 0 || kind >= KINDS)) {
            return NONE;
        }
        plans.wordPair[plans.words] = pair(a, b);
        plans.wordSort[plans.words] = sort;
        plans.wordKind[plans.words] = kind;
        plans.words++;
        return plans.words - 1;
    }

    public int mend() {
        hear(1);
        long limit = levy.settleAll(years[1]);
        for (int many = 0; many <= plans.words; many++) {
            for (int set = 0; set < 1 << plans.words; set++) {
                if (Integer.bitCount(set) == many && closes(set) && owesUnder(set) <= limit) {
                    return set;
                }
            }
        }
        return NONE;
    }

    /** Whether with a set of WORDS no TURNING owes less than none: then no set of them does. */
    private boolean closes(int set) {
        hear(0);
        amend(set);
        for (int k = 0; k < plans.turnings; k++) {
            long straight = levy.settle(years[0].sums[plans.turnSum[k]]);
            if (levy.settle(turn(k)) + plans.price(k) < straight) {
                return false;
            }
        }
        return true;
    }

    /** What YEAR 1 owes with a set of WORDS. */
    private long owesUnder(int set) {
        hear(1);
        amend(set);
        return levy.settleAll(years[1]);
    }

    /** WORDS tell no test: whose he is stays, only what PACTS do with it is asked anew. */
    private void amend(int set) {
        for (int p = 0; p < PAIRS; p++) {
            amended[p].copyTerms(pacts[p]);
        }
        for (int k = 0; k < plans.words; k++) {
            if (has(set, k)) {
                amended[plans.wordPair[k]].tell(plans.wordSort[k], plans.wordKind[k]);
            }
        }
        levy.under(amended);
    }

    public int round(int kind, int source, int to, int what) {
        if (kind < 0 || kind >= THROUGH || !isLand(source) || !isLand(to) || source == to || what < 0 || what > 2) {
            return NONE;
        }
        int straight = leg(kind, source, to);
        int least = straight;
        int third = NONE;
        for (int l = 0; l < LANDS; l++) {
            if (l != source && l != to) {
                int both = leg(kind, source, l) + leg(kind, l, to);
                if (both < least) {
                    least = both;
                    third = l;
                }
            }
        }
        if (what == 0) {
            return straight;
        }
        return what == 1 ? third : least;
    }

    /** What a LAND takes of 100 coin that go to another one. */
    private int leg(int kind, int from, int to) {
        return Math.min(levy.share(from, kind), pacts[pair(from, to)].limit(kind));
    }

    public int answer(int sort, int land, int i, long v) {
        if (sort < 0 || sort > 2 || sort != 2 && !isLand(land) || claims.count >= ANSWERS) {
            return NONE;
        }
        if (sort == 0 && v != 0 && v != 1 || sort == 1 && !years[0].tells(i)) {
            return NONE;
        }
        claims.sort[claims.count] = sort;
        claims.land[claims.count] = land;
        claims.sum[claims.count] = i;
        claims.value[claims.count] = v;
        claims.count++;
        return claims.count - 1;
    }

    public int judged() {
        hear(0);
        for (int k = 0; k < claims.count; k++) {
            if (truth(k) != claims.value[k]) {
                return k;
            }
        }
        return NONE;
    }

    private long truth(int k) {
        int land = claims.land[k];
        if (claims.sort[k] == 0) {
            return has(levy.his, land) ? 1 : 0;
        }
        if (claims.sort[k] == 1) {
            levy.settle(years[0].sums[claims.sum[k]]);
            return levy.taken[land];
        }
        return levy.settleAll(years[0]);
    }

    public int look(int what) {
        switch (what) {
            case 0: return years[0].count;
            case 1: return years[1].count;
            case 2: return plans.moves;
            case 3: return plans.turnings;
            case 4: return plans.words;
            case 5: return claims.count;
            default: return NONE;
        }
    }

    private void hear(int y) {
        levy.hear(years[y].stay, pacts, years[y].base());
    }

    private static boolean isYear(int y) {
        return y >= 0 && y < YEARS;
    }

    private static boolean isLand(int land) {
        return land >= 0 && land < LANDS;
    }

    private static boolean isLandOrNone(int land) {
        return land == NONE || isLand(land);
    }

    /** Whether something is in a set told as a number. */
    private static boolean has(long set, int which) {
        return (set >> which & 1) == 1;
    }

    /** The number of a pair of two different LANDS, in either order. */
    private static int pair(int a, int b) {
        int low = Math.min(a, b);
        int high = Math.max(a, b);
        return low * (2 * LANDS - 1 - low) / 2 + high - low - 1;
    }

    /** What laws ask of somebody in a YEAR. */
    private static final class Stay {
        final int[] nights = new int[LANDS];
        int rubbed;
        int homes;
        int bond = NONE;
        int birth = NONE;

        void become(Stay other) {
            System.arraycopy(other.nights, 0, nights, 0, LANDS);
            rubbed = other.rubbed;
            homes = other.homes;
            bond = other.bond;
            birth = other.birth;
        }

        void shift(int from, int to, int many) {
            nights[from] -= many;
            nights[to] += many;
        }

        void add(int land, int many) {
            if (land == NONE) {
                rubbed += many;
            } else {
                nights[land] += many;
            }
        }

        void fill(int land, int[] facts) {
            facts[0] = nights[land];
            facts[1] = has(homes, land) ? 1 : 0;
            facts[2] = bond == land ? 1 : 0;
            facts[3] = birth == land ? 1 : 0;
            facts[4] = mostBut(land);
            facts[IN] = 0;
            facts[PAYS] = 0;
            facts[AMOUNT] = 0;
        }

        private int mostBut(int land) {
            int most = 0;
            for (int l = 0; l < LANDS; l++) {
                if (l != land) {
                    most = Math.max(most, nights[l]);
                }
            }
            return most;
        }
    }

    /** One SUM. */
    private static final class Sum {
        int kind;
        int real;
        int amount;
        int source;
        int payer;
    }

    /** A YEAR: each NIGHT's LAND, what follows for laws, and the SUMS. */
    private static final class Year {
        final int[] where = new int[NIGHTS];
        final Stay stay = new Stay();
        final Sum[] sums = new Sum[SUMS];
        int count;

        Year() {
            for (int n = 0; n < NIGHTS; n++) {
                where[n] = NONE;
            }
            stay.rubbed = NIGHTS;
            for (int i = 0; i < SUMS; i++) {
                sums[i] = new Sum();
            }
        }

        boolean tells(int sum) {
            return sum >= 0 && sum < count;
        }

        void spend(int from, int to, int land) {
            for (int n = Math.max(from, 0); n <= to && n < NIGHTS; n++) {
                stay.add(where[n], -1);
                stay.add(land, 1);
                where[n] = land;
            }
        }

        /** Tells what laws would ask, were he in one LAND from a NIGHT on. */
        void moved(int night, int land, Stay into) {
            into.become(stay);
            for (int n = Math.max(night, 0); n < NIGHTS; n++) {
                into.add(where[n], -1);
                into.add(land, 1);
            }
            into.homes = 1 << land;
        }

        long base() {
            long all = 0;
            for (int i = 0; i < count; i++) {
                all += sums[i].amount;
            }
            return all;
        }
    }

    /** MOVES, TURNINGS and WORDS as they came. */
    private static final class Plans {
        final int[] moveNight = new int[MOVES];
        final int[] moveLand = new int[MOVES];
        final int[] turnSum = new int[TURNINGS];
        final int[] turnLand = new int[TURNINGS];
        final int[] turnPrice = new int[TURNINGS];
        final int[] wordPair = new int[WORDS];
        final int[] wordSort = new int[WORDS];
        final int[] wordKind = new int[WORDS];
        int moves;
        int turnings;
        int words;

        /** The PRICE of a TURNING in hundredths. */
        long price(int k) {
            return turnPrice[k] * (long) WHOLE;
        }
    }

    /** ANSWERS told. */
    private static final class Claims {
        final int[] sort = new int[ANSWERS];
        final int[] land = new int[ANSWERS];
        final int[] sum = new int[ANSWERS];
        final long[] value = new long[ANSWERS];
        int count;
    }

    /** The LAW of a LAND; its conditions and expressions stand as codes, each behind what it joins. */
    private static final class Law {
        final int[] code = new int[TAPE];
        final int[] ruleSort = new int[LINES];
        final int[] ruleStart = new int[LINES];
        final int[] ruleWhen = new int[LINES];
        final int[] ruleEnd = new int[LINES];
        final int[] stepFrom = new int[LINES];
        final int[] stepPart = new int[LINES];
        int used;
        int rules;
        int steps;
        int free;
        int relief;

        void clear() {
            used = 0;
            rules = 0;
            steps = 0;
            free = 0;
            relief = UNTOLD;
        }

        void emit(int op) {
            if (used < code.length) {
                code[used] = op;
                used++;
            }
        }

        void addRule(int sort, int start, int when) {
            if (rules < LINES) {
                ruleSort[rules] = sort;
                ruleStart[rules] = start;
                ruleWhen[rules] = when;
                ruleEnd[rules] = used;
                rules++;
            }
        }

        void addStep(int from, int part) {
            if (steps < LINES) {
                stepFrom[steps] = from;
                stepPart[steps] = part;
                steps++;
            }
        }

        boolean saysMine(int[] facts, int[] pile) {
            for (int r = 0; r < rules; r++) {
                if (ruleSort[r] == MINE_RULE && run(ruleStart[r], ruleEnd[r], facts, pile) == 1) {
                    return true;
                }
            }
            return false;
        }

        /** Hundredths that the first line of a KIND takes that holds. */
        int part(int kind, int[] facts, int[] pile) {
            for (int r = 0; r < rules; r++) {
                if (ruleSort[r] == kind) {
                    int when = ruleWhen[r];
                    if (when == ruleEnd[r] || run(when, ruleEnd[r], facts, pile) == 1) {
                        return Math.max(0, Math.min(WHOLE, run(ruleStart[r], when, facts, pile)));
                    }
                }
            }
            return 0;
        }

        long bySteps(long base) {
            long net = Math.max(0, base - free);
            long all = 0;
            for (int s = 0; s < steps; s++) {
                long to = s + 1 < steps ? Math.min(net, stepFrom[s + 1]) : net;
                if (to > stepFrom[s]) {
                    all += (to - stepFrom[s]) * stepPart[s];
                }
            }
            return all;
        }

        private int run(int from, int to, int[] facts, int[] pile) {
            int high = 0;
            for (int i = from; i < to && i < code.length; i++) {
                int op = code[i];
                if (op > CODE_ADD) {
                    if (high < pile.length) {
                        pile[high] = op >= 0 ? op : facts[-1 - op];
                        high++;
                    }
                } else if (op == CODE_NOT) {
                    if (high > 0) {
                        pile[high - 1] = 1 - pile[high - 1];
                    }
                } else if (high > 1) {
                    high--;
                    pile[high - 1] = join(op, pile[high - 1], pile[high]);
                }
            }
            return high > 0 ? pile[0] : 0;
        }

        private static int join(int op, int left, int right) {
            switch (op) {
                case CODE_ADD: return left + right;
                case CODE_SUB: return left - right;
                case CODE_MUL: return left * right;
                case CODE_DIV: return right == 0 ? 0 : left / right;
                case CODE_LESS: return left < right ? 1 : 0;
                case CODE_SAME: return left == right ? 1 : 0;
                case CODE_MORE: return left > right ? 1 : 0;
                case CODE_AND: return left & right;
                case CODE_OR: return left | right;
                default: return 0;
            }
        }
    }

    /** The PACT of two LANDS. */
    private static final class Pact {
        final int[] tests = new int[LINES];
        final int[] tops = new int[KINDS];
        int testCount;
        int only;
        int topped;
        int relief;
        boolean looks;

        Pact() {
            clear();
        }

        private void clear() {
            testCount = 0;
            only = 0;
            topped = 0;
            relief = UNTOLD;
            looks = false;
            for (int k = 0; k < KINDS; k++) {
                tops[k] = WHOLE;
            }
        }

        void copyTerms(Pact other) {
            only = other.only;
            relief = other.relief;
            looks = other.looks;
            System.arraycopy(other.tops, 0, tops, 0, KINDS);
        }

        void addTest(int fact) {
            if (testCount < LINES) {
                tests[testCount] = fact;
                testCount++;
            }
        }

        /** Holds a WORD as if it were told. */
        void tell(int sort, int kind) {
            if (sort == 0) {
                looks = true;
            } else if (sort == 1) {
                only |= 1 << kind;
            } else if (sort == 2) {
                tops[kind] = 0;
            } else {
                relief = sort == 3 ? OFF : FREE;
            }
        }

        /** Hundredths of a KIND that may be taken at most. */
        int limit(int kind) {
            return has(only, kind) ? 0 : tops[kind];
        }
    }

    /** Reads TEXTS: tells the first FAULT, or fills a LAW or a PACT. */
    private static final class Reader {
        final long[] keys = new long[KEYS];
        final int[] signs = new int[TAPE + 1];
        final int[] values = new int[TAPE + 1];
        final int[] places = new int[TAPE + 1];
        final int[] waiting = new int[PILE];
        Law law;
        Pact pact;
        int count;
        int at;
        int height;
        int open;
        int fault;
        int place = NONE;
        boolean freeTold;
        boolean reliefTold;

        /** Each KEYWORD is kept as one number, its letters a byte each. */
        Reader() {
            int k = 0;
            for (int i = 0; i < KEYWORDS.length() && k < KEYS; i++) {
                char c = KEYWORDS.charAt(i);
                if (c == ' ') {
                    k++;
                } else {
                    keys[k] = keys[k] << 8 | c;
                }
            }
        }

        void forget() {
            fault = 0;
            place = NONE;
            at = 0;
            freeTold = false;
            reliefTold = false;
        }

        int readLaw(int[] tape, int length, Law into) {
            law = into;
            law.clear();
            scan(tape, length);
            for (int n = 0; n <= LINES; n++) {
                if (sign() == END) {
                    return n;
                }
                if (!lawLine(n) || !pass(';')) {
                    return NONE;
                }
            }
            return NONE;
        }

        int readPact(int[] tape, int length, Pact into) {
            pact = into;
            pact.clear();
            scan(tape, length);
            for (int n = 0; n <= LINES; n++) {
                if (sign() == END) {
                    return n;
                }
                if (!pactLine(n) || !pass(';')) {
                    return NONE;
                }
            }
            return NONE;
        }

        private boolean lawLine(int n) {
            int key = sign();
            if (key < KEY_MINE || key > KEY_RELIEF) {
                return wrong(1);
            }
            if (n >= LINES || key == KEY_FREE && freeTold || key == KEY_RELIEF && reliefTold) {
                return wrong(3);
            }
            at++;
            switch (key) {
                case KEY_MINE: return mineLine();
                case KEY_TAKE: return takeLine();
                case KEY_FREE: return freeLine();
                case KEY_STEP: return stepLine();
                default: return reliefLine();
            }
        }

        private boolean mineLine() {
            int start = law.used;
            if (!condition()) {
                return false;
            }
            law.addRule(MINE_RULE, start, start);
            return true;
        }

        private boolean takeLine() {
            if (!isKind()) {
                return wrong(1);
            }
            int kind = sign() - KEY_PAY;
            at++;
            int start = law.used;
            if (!expression()) {
                return false;
            }
            int when = law.used;
            if (sign() == KEY_WHEN) {
                at++;
                if (!condition()) {
                    return false;
                }
            }
            law.addRule(kind, start, when);
            return true;
        }

        private boolean freeLine() {
            if (sign() != NUMBER) {
                return wrong(1);
            }
            freeTold = true;
            law.free = values[at];
            at++;
            return true;
        }

        private boolean stepLine() {
            if (sign() != NUMBER) {
                return wrong(1);
            }
            int from = values[at];
            if (law.steps > 0 && from <= law.stepFrom[law.steps - 1]) {
                return wrong(2);
            }
            at++;
            if (!isPart()) {
                return false;
            }
            law.addStep(from, values[at]);
            at++;
            return true;
        }

        private boolean reliefLine() {
            int key = sign();
            if (key != KEY_NO && key != KEY_OFF && key != KEY_FREE) {
                return wrong(1);
            }
            reliefTold = true;
            law.relief = reliefOf(key);
            at++;
            return true;
        }

        private static int reliefOf(int key) {
            if (key == KEY_OFF) {
                return OFF;
            }
            return key == KEY_FREE ? FREE : UNTOLD;
        }

        private boolean pactLine(int n) {
            int key = sign();
            if (key != KEY_RELIEF && (key < KEY_TEST || key > KEY_LOOK)) {
                return wrong(1);
            }
            if (n >= LINES || key == KEY_RELIEF && pact.relief != UNTOLD || key == KEY_LOOK && pact.looks) {
                return wrong(3);
            }
            at++;
            switch (key) {
                case KEY_TEST: return testLine();
                case KEY_ONLY: return onlyLine();
                case KEY_TOP: return topLine();
                case KEY_RELIEF: return pactRelief();
                default:
                    pact.looks = true;
                    return true;
            }
        }

        private boolean testLine() {
            if (sign() < KEY_NIGHTS || sign() > KEY_BIRTH) {
                return wrong(1);
            }
            pact.addTest(sign());
            at++;
            return true;
        }

        private boolean onlyLine() {
            if (!isNewKind(pact.only)) {
                return false;
            }
            pact.only |= 1 << sign() - KEY_PAY;
            at++;
            return true;
        }

        private boolean topLine() {
            if (!isNewKind(pact.topped)) {
                return false;
            }
            int kind = sign() - KEY_PAY;
            pact.topped |= 1 << kind;
            at++;
            if (!isPart()) {
                return false;
            }
            pact.tops[kind] = values[at];
            at++;
            return true;
        }

        private boolean pactRelief() {
            if (sign() != KEY_OFF && sign() != KEY_FREE) {
                return wrong(1);
            }
            pact.relief = reliefOf(sign());
            at++;
            return true;
        }

        /** B: what waits for its right side stands in a pile, so that no call goes down with the brackets. */
        private boolean condition() {
            height = 0;
            open = 0;
            for (int i = 0; i <= count; i++) {
                if (sign() == '(' || sign() == KEY_NOT) {
                    if (open >= DEEPEST) {
                        return wrong(3);
                    }
                    open++;
                } else {
                    if (!expression()) {
                        return false;
                    }
                    int code = comparing(sign());
                    if (code == 0) {
                        return wrong(1);
                    }
                    at++;
                    if (!expression()) {
                        return false;
                    }
                    law.emit(code);
                    closeClauses();
                    if (sign() != KEY_AND && sign() != KEY_OR) {
                        return endCondition();
                    }
                    emitJoins(sign() == KEY_OR);
                }
                await(sign());
            }
            return wrong(1);
        }

        private void await(int key) {
            if (height < PILE) {
                waiting[height] = key;
                height++;
            }
            at++;
        }

        private int top() {
            return height > 0 && height <= PILE ? waiting[height - 1] : NOTHING;
        }

        /** Ends each not and each bracket whose clause is whole here. */
        private void closeClauses() {
            for (int i = 0; i <= TAPE; i++) {
                if (top() == KEY_NOT) {
                    law.emit(CODE_NOT);
                } else if (sign() == ')') {
                    emitJoins(true);
                    if (top() != '(') {
                        return;
                    }
                    at++;
                } else {
                    return;
                }
                height--;
                open--;
            }
        }

        private void emitJoins(boolean orToo) {
            for (int i = 0; i < PILE; i++) {
                if (top() == KEY_AND) {
                    law.emit(CODE_AND);
                } else if (top() == KEY_OR && orToo) {
                    law.emit(CODE_OR);
                } else {
                    return;
                }
                height--;
            }
        }

        private boolean endCondition() {
            emitJoins(true);
            return height == 0 || wrong(1);
        }

        private static int comparing(int sign) {
            if (sign == '<') {
                return CODE_LESS;
            }
            if (sign == '=') {
                return CODE_SAME;
            }
            return sign == '>' ? CODE_MORE : 0;
        }

        /** E: a + or - waits until the T behind it is whole. */
        private boolean expression() {
            int pending = 0;
            if (!unit()) {
                return false;
            }
            for (int i = 0; i <= count; i++) {
                int key = sign();
                if (key == '+' || key == '-') {
                    emitPending(pending);
                    pending = key == '+' ? CODE_ADD : CODE_SUB;
                } else if (key != '*' && key != '/') {
                    break;
                }
                at++;
                if (key == '/' && !isDivisor() || !unit()) {
                    return false;
                }
                if (key == '*' || key == '/') {
                    law.emit(key == '*' ? CODE_MUL : CODE_DIV);
                }
            }
            emitPending(pending);
            return true;
        }

        private void emitPending(int code) {
            if (code != 0) {
                law.emit(code);
            }
        }

        private boolean unit() {
            int key = sign();
            if (key == NUMBER) {
                law.emit(values[at]);
            } else if (key >= 0 && key < FACTS) {
                law.emit(-1 - key);
            } else {
                return wrong(1);
            }
            at++;
            return true;
        }

        private boolean isDivisor() {
            if (sign() != NUMBER) {
                return wrong(1);
            }
            return values[at] != 0 || wrong(2);
        }

        private boolean isPart() {
            if (sign() != NUMBER) {
                return wrong(1);
            }
            return values[at] <= WHOLE || wrong(2);
        }

        private boolean isKind() {
            return sign() >= KEY_PAY && sign() <= KEY_THROUGH;
        }

        private boolean isNewKind(int told) {
            if (!isKind()) {
                return wrong(1);
            }
            return !has(told, sign() - KEY_PAY) || wrong(3);
        }

        private boolean pass(int sign) {
            if (sign() != sign) {
                return wrong(1);
            }
            at++;
            return true;
        }

        private int sign() {
            return at >= 0 && at < count ? signs[at] : END;
        }

        private boolean wrong(int which) {
            fault = which;
            place = at >= 0 && at < count ? places[at] : NONE;
            return false;
        }

        private void scan(int[] tape, int length) {
            int stop = Math.max(0, Math.min(length, tape.length));
            count = 0;
            int next = 0;
            for (int i = 0; i < stop; i = next) {
                int c = tape[i];
                next = i + 1;
                if (isLetter(c)) {
                    while (next < stop && isLetter(tape[next])) {
                        next++;
                    }
                    addToken(keyword(tape, i, next), i, 0);
                } else if (isDigit(c)) {
                    while (next < stop && isDigit(tape[next])) {
                        next++;
                    }
                    addToken(next - i <= LONGEST_NUMBER ? NUMBER : NOTHING, i, number(tape, i, next));
                } else if (c != ' ' && c != '\n') {
                    addToken(isSign(c) ? c : NOTHING, i, 0);
                }
            }
            addToken(END, stop, 0);
        }

        private void addToken(int sign, int from, int value) {
            if (count < signs.length) {
                signs[count] = sign;
                places[count] = from;
                values[count] = value;
                count++;
            }
        }

        private static boolean isLetter(int c) {
            return c >= 'a' && c <= 'z' || c >= 'A' && c <= 'Z';
        }

        private static boolean isDigit(int c) {
            return c >= '0' && c <= '9';
        }

        private static boolean isSign(int c) {
            return c >= '(' && c <= '+' || c == '-' || c == '/' || c >= ';' && c <= '>';
        }

        private static int number(int[] tape, int from, int to) {
            int value = 0;
            for (int i = from; i < to && i < tape.length; i++) {
                value = value * 10 + tape[i] - '0';
            }
            return value;
        }

        private int keyword(int[] tape, int from, int to) {
            if (to - from > LONGEST_KEY) {
                return NOTHING;
            }
            long letters = 0;
            for (int i = from; i < to && i < tape.length; i++) {
                letters = letters << 8 | tape[i];
            }
            for (int k = 0; k < KEYS; k++) {
                if (keys[k] == letters) {
                    return k;
                }
            }
            return NOTHING;
        }
    }

    /** Whose he is, and what is taken of a SUM, for one YEAR as it was heard. */
    private static final class Levy {
        final Law[] laws = new Law[LANDS];
        final int[][] facts = new int[LANDS][FACTS];
        final int[] legFacts = new int[FACTS];
        final int[] pile = new int[PILE];
        final int[] above = new int[LANDS];
        final int[] reliefOff = new int[LANDS];
        final int[] reliefFree = new int[LANDS];
        final long[] whole = new long[LANDS];
        final long[] ahead = new long[LANDS];
        final long[] taken = new long[LANDS];
        final long[] due = new long[LANDS];
        final Ring ring = new Ring();
        Pact[] pacts;
        long base;
        int says;
        int his;
        int seeing;
        int answers;

        Levy() {
            for (int l = 0; l < LANDS; l++) {
                laws[l] = new Law();
            }
            legFacts[IN] = 1;
            legFacts[PAYS] = 1;
            legFacts[AMOUNT] = WHOLE;
        }

        boolean saysSo(Stay stay, int land) {
            stay.fill(land, facts[land]);
            return laws[land].saysMine(facts[land], pile);
        }

        void hear(Stay stay, Pact[] told, long sums) {
            base = sums;
            says = 0;
            for (int l = 0; l < LANDS; l++) {
                says = saysSo(stay, l) ? says | 1 << l : says;
                above[l] = 0;
            }
            for (int a = 0; a < LANDS; a++) {
                for (int b = a + 1; b < LANDS; b++) {
                    giveWay(told[pair(a, b)], a, b);
                }
            }
            his = 0;
            for (int l = 0; l < LANDS; l++) {
                his = has(says, l) && above[l] == 0 ? his | 1 << l : his;
                whole[l] = has(his, l) ? laws[l].bySteps(base) : 0;
            }
            under(told);
        }

        private void giveWay(Pact pact, int a, int b) {
            if (!has(says, a) || !has(says, b)) {
                return;
            }
            int test = deciding(pact, a, b);
            if (test != NONE) {
                int fact = pact.tests[test];
                boolean first = facts[a][fact] > facts[b][fact];
                above[first ? b : a] |= 1 << (first ? a : b);
            }
        }

        int deciding(Pact pact, int a, int b) {
            for (int t = 0; t < pact.testCount; t++) {
                int fact = pact.tests[t];
                if (facts[a][fact] != facts[b][fact]) {
                    return t;
                }
            }
            return NONE;
        }

        /** Takes on the PACTS for what they do to those that are HIS already. */
        void under(Pact[] told) {
            pacts = told;
            seeing = 0;
            for (int l = 0; l < LANDS; l++) {
                reliefOff[l] = 0;
                reliefFree[l] = 0;
                for (int m = 0; m < LANDS; m++) {
                    if (m != l) {
                        meet(l, m, told[pair(l, m)]);
                    }
                }
            }
        }

        private void meet(int land, int other, Pact pact) {
            boolean own = has(his, land);
            if (pact.looks && (own || has(his, other))) {
                seeing |= 1 << land;
            }
            int relief = pact.relief != UNTOLD ? pact.relief : laws[land].relief;
            if (own && relief == OFF) {
                reliefOff[land] |= 1 << other;
            }
            if (own && relief == FREE) {
                reliefFree[land] |= 1 << other;
            }
        }

        int seen(Sum sum, int land) {
            return has(seeing, land) ? sum.real : sum.kind;
        }

        boolean freed(Sum sum, int land) {
            return has(reliefFree[land], sum.source);
        }

        long settleAll(Year year) {
            long all = 0;
            for (int i = 0; i < year.count; i++) {
                all += settle(year.sums[i]);
            }
            return all;
        }

        /** Finds what each LAND takes of a SUM, and tells all of it. */
        long settle(Sum sum) {
            for (int l = 0; l < LANDS; l++) {
                ahead[l] = has(his, l) ? ownAhead(sum, l) : sum.amount * (long) atSource(sum, l);
            }
            int open = 0;
            for (int l = 0; l < LANDS; l++) {
                due[l] = ahead[l] - takenOf(reliefOff[l] & ~his);
                open = has(his, l) && due[l] > 0 ? open | 1 << l : open;
            }
            chooseAnswer(open);
            long all = 0;
            for (int l = 0; l < LANDS; l++) {
                all += taken[l];
            }
            return all;
        }

        private long ownAhead(Sum sum, int land) {
            return base <= 0 || freed(sum, land) ? 0 : whole[land] * sum.amount / base;
        }

        /** Hundredths that a LAND takes that is not HIS. */
        private int atSource(Sum sum, int land) {
            int kind = seen(sum, land);
            int[] asked = facts[land];
            asked[IN] = sum.source == land ? 1 : 0;
            asked[PAYS] = sum.payer == land ? 1 : 0;
            asked[AMOUNT] = sum.amount;
            int part = laws[land].part(kind, asked, pile);
            for (int l = 0; l < LANDS; l++) {
                if (has(his, l) && l != land) {
                    part = Math.min(part, pacts[pair(l, land)].limit(kind));
                }
            }
            return part;
        }

        private long takenOf(int set) {
            long all = 0;
            for (int l = 0; l < LANDS; l++) {
                all += has(set, l) ? ahead[l] : 0;
            }
            return all;
        }

        /** Goes through the sets of those that may take something, the least first; with no ANSWER all take as AHEAD. */
        private void chooseAnswer(int open) {
            answers = 0;
            System.arraycopy(ahead, 0, taken, 0, LANDS);
            for (int set = 0; set <= open; set++) {
                if ((set & ~open) == 0 && ring.answers(set, open, reliefOff, due)) {
                    answers++;
                    if (answers == 1) {
                        takeAnswer(set);
                    }
                }
            }
        }

        private void takeAnswer(int set) {
            for (int l = 0; l < LANDS; l++) {
                if (has(his, l)) {
                    taken[l] = has(set, l) ? ring.told(l) : 0;
                }
            }
        }

        int takers() {
            int many = 0;
            for (int l = 0; l < LANDS; l++) {
                many += taken[l] > 0 ? 1 : 0;
            }
            return many;
        }

        /** Hundredths that a LAND takes of what only passes. */
        int share(int land, int kind) {
            return laws[land].part(kind, legFacts, pile);
        }
    }

    /** Solves what those that take something take of one another, in fractions over one divisor. */
    private static final class Ring {
        final long[][] rows = new long[LANDS][LANDS + 1];
        final int[] members = new int[LANDS];
        final long[] parts = new long[LANDS];
        long divisor = 1;

        /** Whether just this set's LANDS take more than 0 in its only solution, and no other open one would. */
        boolean answers(int set, int open, int[] off, long[] due) {
            int size = fill(set, off, due);
            if (!eliminate(size)) {
                return false;
            }
            divisor = size > 0 ? rows[size - 1][size - 1] : 1;
            long turn = divisor < 0 ? -1 : 1;
            divisor *= turn;
            for (int i = 0; i < size; i++) {
                long part = rows[i][size] * turn;
                if (part <= 0) {
                    return false;
                }
                parts[members[i]] = part;
            }
            return othersTakeNothing(set, open, off, due);
        }

        private int fill(int set, int[] off, long[] due) {
            int size = 0;
            for (int l = 0; l < LANDS; l++) {
                if (has(set, l)) {
                    members[size] = l;
                    size++;
                }
            }
            for (int i = 0; i < size; i++) {
                for (int j = 0; j < size; j++) {
                    rows[i][j] = i == j ? 1 : off[members[i]] >> members[j] & 1;
                }
                rows[i][size] = due[members[i]];
            }
            return size;
        }

        /** Whole numbers all the way: what was the pivot ahead divides each new entry. */
        private boolean eliminate(int size) {
            long before = 1;
            for (int k = 0; k < size; k++) {
                if (!bringPivot(k, size) || before == 0) {
                    return false;
                }
                long[] base = rows[k];
                long pivot = base[k];
                for (int i = 0; i < size; i++) {
                    long[] row = rows[i];
                    long factor = row[k];
                    for (int j = 0; j <= size && i != k; j++) {
                        row[j] = (row[j] * pivot - factor * base[j]) / before;
                    }
                }
                before = pivot;
            }
            return true;
        }

        private boolean bringPivot(int k, int size) {
            for (int i = k; i < size; i++) {
                if (rows[i][k] != 0) {
                    long[] row = rows[i];
                    rows[i] = rows[k];
                    rows[k] = row;
                    return true;
                }
            }
            return false;
        }

        private boolean othersTakeNothing(int set, int open, int[] off, long[] due) {
            for (int l = 0; l < LANDS; l++) {
                if (has(open & ~set, l)) {
                    long left = due[l] * divisor;
                    for (int m = 0; m < LANDS; m++) {
                        left -= has(set & off[l], m) ? parts[m] : 0;
                    }
                    if (left > 0) {
                        return false;
                    }
                }
            }
            return true;
        }

        long told(int land) {
            return divisor == 0 ? 0 : parts[land] / divisor;
        }
    }
}
