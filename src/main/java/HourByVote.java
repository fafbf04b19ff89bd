import java.util.Arrays;

/** The republic whose hour is by vote, as ../shared/DOC.md promises it. */
public final class HourByVote {
    public static final int BAD = -1, FULL = -2, NONE = -3, STATE = -4;

    private static final int NOTHING = -11, OUTSIDE = -12, OTHER_SORT = -13, BELOW_ZERO = -14, PARTED_BY_0 = -15;
    private static final int NO_ROW = -9, FAULT_BASE = -100;

    private static final int HOURS = 24, MOST_VOTERS = 7, SETS = 1 << MOST_VOTERS;
    private static final int MOST_NOONS = 9999, MOST_AHEAD = 60, MOST_LIMIT = 99;
    private static final int MOST_PLAN = 4, ROW_WIDTH = 3, MOST_REPORTS = 6;
    private static final int MOST_RULES = 8, MOST_BYTES = 200, MOST_OPEN = 3, MOST_DIGITS = 4, MOST_BY = 99;
    private static final int SHEETS = 4, SHELVES = 4, MOST_ITEMS = 40, MOST_TAKEN = 20, MOST_TRACE = 30;

    // what voterOf() and change() call by number
    private static final int KIND = 0, WANT = 1, WEIGHT = 2, PRICE = 3, IS_AWAKE = 4, VOTE = 5, POWER = 6;

    private static final int VOTER = 0, LOVER = 1, DEBTOR = 2, SHIFT = 3, BAKER = 4, SLEEPER = 5;

    // where FACTS stand in the row of values that conditions compare
    private static final int FACT_HOUR = 0, FACT_WANT = 1, FACT_WEIGHT = 2, FACT_AWAKE = 3, FACT_NUMBER = 4, FACTS = 5;

    // words of a TEXT: KINDS by their numbers, FACTS by their places and this more, and the others
    private static final int WORD_FACT = 10;
    private static final int IF = 20, AND = 21, OR = 22, NOT = 23, MORE = 24, LESS = 25, NIL = 26;
    private static final int DIGITS = 30, BELOW = 31, SAME = 32, ABOVE = 33, OPEN = 34, CLOSE = 35, SEMICOLON = 36;
    private static final int END = 40, JUNK = 41;

    private static final int BYTES = 0, SHORTS = 1, BOOLEANS = 4, MISSING = -1;
    private static final int HOLDS_VOTER = 0, HOLDS_ROW = 1, HOLDS_NOTHING = 2, AS_ROW = 10;

    // no SUM is as low
    private static final int UNKNOWN = -1000000;

    private final Republic now;
    private final Republic kept;
    private boolean isKept;
    private final RuleReader reader;
    private final Trace bodies;
    private final Thing[] things;
    private final Host host;
    // SUM by HOUR and set of who is awake; neither THE CLOCK nor LIMIT bears on it
    private final int[] sums;
    // VOTE times POWER, at the HOUR that is shown
    private final int[] pulls;
    // how many PLANS end at each HOUR
    private final int[] ends;
    private final int[] plan;
    private final int[] rows;
    private int rowCount;

    public HourByVote() {
        Trace trace = new Trace();
        now = new Republic();
        kept = new Republic();
        reader = new RuleReader();
        bodies = trace;
        things = new Thing[] {
            new Thing(trace), new Lover(trace), new Debtor(trace),
            new Shift(trace), new Baker(trace), new Sleeper(trace)
        };
        host = new Host();
        sums = new int[HOURS * SETS];
        pulls = new int[MOST_VOTERS];
        ends = new int[HOURS];
        plan = new int[MOST_PLAN];
        rows = new int[MOST_PLAN * ROW_WIDTH];
        forgetSums();
    }

    // ---- voters, the clock

    public int voter(int kind, int want, int weight, int price) {
        if (!isIn(kind, LOVER, SLEEPER) || !suits(WANT, want) || !suits(WEIGHT, weight) || !suits(PRICE, price)) {
            return BAD;
        }
        if (now.voters >= MOST_VOTERS) {
            return FULL;
        }
        int p = now.voters;
        now.kind[p] = kind;
        now.want[p] = want;
        now.weight[p] = weight;
        now.price[p] = price;
        now.awake |= 1 << p;
        now.voters++;
        forgetSums();
        return p;
    }

    public int voterOf(int p, int what) {
        if (!isVoter(p)) {
            return BAD;
        }
        switch (what) {
            case KIND: return now.kind[p];
            case WANT: return now.want[p];
            case WEIGHT: return now.weight[p];
            case PRICE: return now.price[p];
            case IS_AWAKE: return isAwake(p) ? 1 : 0;
            case VOTE: return voteAt(p, now.hour) + 1;
            case POWER: return powerAt(p, now.hour, Integer.bitCount(now.awake));
            default: return BAD;
        }
    }

    public int change(int p, int what, int v) {
        if (!isVoter(p) || !suits(what, v)) {
            return BAD;
        }
        int[] traits = what == WANT ? now.want : what == WEIGHT ? now.weight : now.price;
        int was = traits[p];
        traits[p] = v;
        forgetSums();
        return was;
    }

    public int remake(int p, int kind) {
        if (!isVoter(p) || !isIn(kind, LOVER, SLEEPER)) {
            return BAD;
        }
        int was = now.kind[p];
        now.kind[p] = kind;
        forgetSums();
        return was;
    }

    public int wakes(int p, boolean is) {
        if (!isVoter(p)) {
            return BAD;
        }
        int was = isAwake(p) ? 1 : 0;
        now.awake = is ? now.awake | 1 << p : now.awake & ~(1 << p);
        return was;
    }

    public int clock(int v) {
        if (!isHour(v)) {
            return BAD;
        }
        int was = now.hour;
        now.hour = v;
        return was;
    }

    public int limit(int v) {
        if (!isIn(v, 0, MOST_LIMIT)) {
            return BAD;
        }
        int was = now.limit;
        now.limit = v;
        return was;
    }

    public int state(int what) {
        switch (what) {
            case 0: return now.hour;
            case 1: return now.noons;
            case 2: return now.limit;
            case 3: return now.awake;
            case 4: return now.lag;
            default: return BAD;
        }
    }

    private boolean isVoter(int p) {
        return p >= 0 && p < now.voters;
    }

    private boolean isAwake(int p) {
        return (now.awake >> p & 1) == 1;
    }

    private static boolean isHour(int v) {
        return isIn(v, 0, HOURS - 1);
    }

    private static boolean isIn(int v, int least, int most) {
        return v >= least && v <= most;
    }

    private static boolean suits(int what, int v) {
        switch (what) {
            case WANT: return isHour(v);
            case WEIGHT: return isIn(v, 1, 9);
            case PRICE: return isIn(v, 0, 99);
            default: return false;
        }
    }

    // ---- the rules

    public int feed(long eight, int n) {
        if (!isIn(n, 1, 8)) {
            return BAD;
        }
        if (reader.size + n > MOST_BYTES) {
            return FULL;
        }
        return reader.take(eight, n);
    }

    public int rules() {
        int fault = reader.read();
        if (fault >= 0) {
            return FAULT_BASE - fault;
        }
        now.laws.copyFrom(reader.draft);
        forgetSums();
        return now.laws.count;
    }

    // ---- noons

    public int sum() {
        return sumAt(now.hour, now.awake);
    }

    public int noon() {
        if (now.noons >= MOST_NOONS) {
            return STATE;
        }
        return now.goOn(turnNow());
    }

    public int on(int n) {
        if (!isIn(n, 0, MOST_AHEAD)) {
            return BAD;
        }
        return hourAfter(now.hour, n);
    }

    public int when(int hour) {
        if (!isHour(hour)) {
            return BAD;
        }
        int shown = now.hour;
        for (int n = 0; n <= MOST_AHEAD; n++) {
            if (shown == hour) {
                return n;
            }
            shown = hourAfter(shown, 1);
        }
        return NONE;
    }

    public int cycle(int what) {
        if (!isIn(what, 0, 1)) {
            return BAD;
        }
        int inRound = hourAfter(now.hour, HOURS);
        int many = 1;
        int shown = hourAfter(inRound, 1);
        while (shown != inRound && many < HOURS) {
            shown = hourAfter(shown, 1);
            many++;
        }
        return what == 1 ? many : noonsUntilRound(many);
    }

    // who starts as many NOONS ahead as ROUND has HOURS is met just where ROUND begins
    private int noonsUntilRound(int many) {
        int behind = now.hour;
        int ahead = hourAfter(now.hour, many);
        int n = 0;
        while (behind != ahead && n < HOURS) {
            behind = hourAfter(behind, 1);
            ahead = hourAfter(ahead, 1);
            n++;
        }
        return n;
    }

    private int hourAfter(int hour, int noons) {
        int shown = hour;
        for (int n = 0; n < noons; n++) {
            shown = hourBehind(shown, now.awake);
        }
        return shown;
    }

    private int hourBehind(int hour, int awake) {
        return moved(hour, turnOf(sumAt(hour, awake), now.limit));
    }

    private int turnNow() {
        return turnOf(sumAt(now.hour, now.awake), now.limit);
    }

    private static int turnOf(int sum, int limit) {
        return sum > limit ? 1 : sum < -limit ? -1 : 0;
    }

    private static int moved(int hour, int by) {
        return Math.floorMod(hour + by, HOURS);
    }

    private static int apart(int hour, int other) {
        int ahead = Math.floorMod(other - hour, HOURS);
        return Math.min(ahead, HOURS - ahead);
    }

    private int sumAt(int hour, int awake) {
        int at = hour * SETS + awake;
        if (sums[at] == UNKNOWN) {
            int together = 0;
            for (int p = 0; p < now.voters; p++) {
                if ((awake >> p & 1) == 1) {
                    together += voteAt(p, hour) * powerAt(p, hour, Integer.bitCount(awake));
                }
            }
            sums[at] = together;
        }
        return sums[at];
    }

    private void forgetSums() {
        Arrays.fill(sums, UNKNOWN);
    }

    private int voteAt(int p, int hour) {
        int ahead = Math.floorMod(now.want[p] - hour, HOURS);
        return ahead == 0 ? 0 : ahead <= HOURS / 2 ? 1 : -1;
    }

    private int powerAt(int p, int hour, int awake) {
        int[] facts = now.laws.values;
        facts[FACT_HOUR] = hour;
        facts[FACT_WANT] = now.want[p];
        facts[FACT_WEIGHT] = now.weight[p];
        facts[FACT_AWAKE] = awake;
        facts[FACT_NUMBER] = p;
        int kind = now.kind[p];
        return things[kind].powerOf(now.laws.weigh(kind, now.weight[p]), hour);
    }

    // ---- whom to lull, who lies, who decides

    public int buys(int turn) {
        if (!isIn(turn, 0, 2)) {
            return BAD;
        }
        int set = bestLulled(turn);
        return set < 0 ? NONE : priceOf(set);
    }

    public int whom(int turn) {
        return isIn(turn, 0, 2) ? bestLulled(turn) : BAD;
    }

    public int liars() {
        int set = 0;
        for (int p = 0; p < now.voters; p++) {
            if (isAwake(p) && gainsByLying(p)) {
                set |= 1 << p;
            }
        }
        return set;
    }

    public int power(int p) {
        if (!isVoter(p)) {
            return BAD;
        }
        if (!isAwake(p)) {
            return 0;
        }
        findPulls();
        int count = 0;
        for (int set = 0; set < SETS; set++) {
            if (isWithin(set, now.awake & ~(1 << p)) && decides(p, set)) {
                count++;
            }
        }
        return count;
    }

    private int bestLulled(int turn) {
        int best = NONE;
        for (int set = 0; set < SETS; set++) {
            if (isWithin(set, now.awake) && turnOf(sumAt(now.hour, now.awake & ~set), now.limit) + 1 == turn
                    && (best < 0 || isBetter(set, best))) {
                best = set;
            }
        }
        return best;
    }

    private boolean isBetter(int set, int than) {
        int dearer = priceOf(set) - priceOf(than);
        return dearer < 0 || dearer == 0 && Integer.bitCount(set) < Integer.bitCount(than);
    }

    private int priceOf(int set) {
        int together = 0;
        for (int p = 0; p < now.voters; p++) {
            if ((set >> p & 1) == 1) {
                together += now.price[p];
            }
        }
        return together;
    }

    private static boolean isWithin(int set, int whole) {
        return (set & ~whole) == 0;
    }

    private boolean gainsByLying(int p) {
        int power = powerAt(p, now.hour, Integer.bitCount(now.awake));
        int honest = sumAt(now.hour, now.awake);
        int others = honest - voteAt(p, now.hour) * power;
        for (int vote = -1; vote <= 1; vote++) {
            if (missBehind(p, others + vote * power) < missBehind(p, honest)) {
                return true;
            }
        }
        return false;
    }

    private int missBehind(int p, int sum) {
        return apart(moved(now.hour, turnOf(sum, now.limit)), now.want[p]);
    }

    private void findPulls() {
        int awake = Integer.bitCount(now.awake);
        for (int p = 0; p < now.voters; p++) {
            pulls[p] = voteAt(p, now.hour) * powerAt(p, now.hour, awake);
        }
    }

    private boolean decides(int p, int others) {
        int sum = 0;
        for (int q = 0; q < now.voters; q++) {
            if ((others >> q & 1) == 1) {
                sum += pulls[q];
            }
        }
        return turnOf(sum, now.limit) != turnOf(sum + pulls[p], now.limit);
    }

    // ---- plans

    public int fewest(int hour) {
        return isHour(hour) ? firstPlan(hour, now.limit, MOST_PLAN) : BAD;
    }

    public int ith(int hour, int i) {
        if (!isHour(hour) || !isIn(i, 0, MOST_PLAN - 1)) {
            return BAD;
        }
        return i < firstPlan(hour, now.limit, MOST_PLAN) ? plan[i] : NONE;
    }

    public int ways(int hour, int n) {
        if (!isHour(hour) || !isIn(n, 0, MOST_PLAN)) {
            return BAD;
        }
        findEnds(n);
        return ends[hour];
    }

    public int hours(int n) {
        if (!isIn(n, 0, MOST_PLAN)) {
            return BAD;
        }
        findEnds(n);
        int set = 0;
        for (int hour = 0; hour < HOURS; hour++) {
            if (ends[hour] > 0) {
                set |= 1 << hour;
            }
        }
        return set;
    }

    public int limitFor(int hour, int n) {
        if (!isHour(hour) || !isIn(n, 1, MOST_PLAN - 1)) {
            return BAD;
        }
        for (int limit = MOST_LIMIT; limit >= 0; limit--) {
            if (firstPlan(hour, limit, n) >= 0) {
                return limit;
            }
        }
        return NONE;
    }

    /** Writes the FIRST of the shortest PLANS into plan: how many NOONS it has, or NONE if these are more than most. */
    private int firstPlan(int goal, int limit, int most) {
        for (int n = 0; n <= most; n++) {
            if (plansTo(goal, now.hour, now.awake, limit, 0, n)) {
                return n;
            }
        }
        return NONE;
    }

    private boolean plansTo(int goal, int hour, int awake, int limit, int at, int n) {
        if (apart(hour, goal) > n - at) {
            return false;
        }
        if (at >= n) {
            return true;
        }
        for (int act = 0; act <= now.voters; act++) {
            plan[at] = act;
            if (goesOnTo(goal, hour, acted(awake, act), limit, at, n)) {
                return true;
            }
        }
        return false;
    }

    private boolean goesOnTo(int goal, int hour, int awake, int limit, int at, int n) {
        return plansTo(goal, moved(hour, turnOf(sumAt(hour, awake), limit)), awake, limit, at + 1, n);
    }

    private void findEnds(int n) {
        Arrays.fill(ends, 0);
        countEnds(now.hour, now.awake, n);
    }

    private void countEnds(int hour, int awake, int left) {
        if (left <= 0) {
            ends[hour]++;
            return;
        }
        for (int act = 0; act <= now.voters; act++) {
            countEndsBehind(hour, acted(awake, act), left);
        }
    }

    private void countEndsBehind(int hour, int awake, int left) {
        countEnds(moved(hour, turnOf(sumAt(hour, awake), now.limit)), awake, left - 1);
    }

    private boolean isAct(int act) {
        return isIn(act, 0, now.voters);
    }

    private static int acted(int awake, int act) {
        return act == 0 ? awake : awake ^ 1 << act - 1;
    }

    // ---- a game, reports, lots

    public int game(int n) {
        return isIn(n, 1, MOST_PLAN) ? valueOf(now.hour, now.awake, n, 1) + 10 : BAD;
    }

    public int play(int n) {
        if (!isIn(n, 1, MOST_PLAN)) {
            return BAD;
        }
        int value = valueOf(now.hour, now.awake, n, 1);
        int act = 0;
        while (act < now.voters && valueBy(act, now.hour, now.awake, n, 1) != value) {
            act++;
        }
        return act;
    }

    public int report(int noon, int shown) {
        if (!isIn(noon, 0, MOST_AHEAD) || !isHour(shown)) {
            return BAD;
        }
        if (now.reports >= MOST_REPORTS) {
            return FULL;
        }
        now.reportNoon[now.reports] = noon;
        now.reportHour[now.reports] = shown;
        return now.reports++;
    }

    public int forget() {
        int were = now.reports;
        now.reports = 0;
        return were;
    }

    public int span(int what) {
        if (!isIn(what, 0, 2)) {
            return BAD;
        }
        int first = NONE;
        int count = 0;
        for (int law = 3 * HOURS - 1; law >= 0; law--) {
            if (fits(law, NONE)) {
                first = law;
                count++;
            }
        }
        if (what == 0) {
            return count;
        }
        return first < 0 ? NONE : what == 1 ? first / HOURS : first % HOURS;
    }

    public int liar() {
        if (someFits(NONE)) {
            return NONE;
        }
        for (int r = 0; r < now.reports; r++) {
            if (someFits(r)) {
                return r;
            }
        }
        return NONE;
    }

    public int seed(int v) {
        int was = now.z;
        now.z = v;
        return was;
    }

    public int lot() {
        if (now.noons >= MOST_NOONS) {
            return STATE;
        }
        findPulls();
        return now.goOn(turnByLot());
    }

    public int often(int n, int hour) {
        if (!isIn(n, 1, MOST_AHEAD) || !isHour(hour)) {
            return BAD;
        }
        int z = now.z;
        int count = 0;
        findPulls();
        for (int i = 0; i < n; i++) {
            if (moved(now.hour, turnByLot()) == hour) {
                count++;
            }
        }
        now.z = z;
        return count;
    }

    /** VALUE of what is left of a GAME; side is 1 if the first one is in turn, else -1. */
    private int valueOf(int hour, int awake, int left, int side) {
        if (left <= 0) {
            return 0;
        }
        int best = valueBy(0, hour, awake, left, side);
        for (int act = 1; act <= now.voters; act++) {
            int value = valueBy(act, hour, awake, left, side);
            if (value * side > best * side) {
                best = value;
            }
        }
        return best;
    }

    private int valueBy(int act, int hour, int awake, int left, int side) {
        int then = acted(awake, act);
        int turn = turnOf(sumAt(hour, then), now.limit);
        return turn + valueOf(moved(hour, turn), then, left - 1, -side);
    }

    // a LAW's number: 24 times its STEP and 1, and its START: so the least STEP comes first, then the least START
    private boolean fits(int law, int without) {
        int step = law / HOURS - 1;
        for (int r = 0; r < now.reports; r++) {
            if (r != without && moved(law % HOURS, now.reportNoon[r] * step) != now.reportHour[r]) {
                return false;
            }
        }
        return true;
    }

    private boolean someFits(int without) {
        for (int law = 0; law < 3 * HOURS; law++) {
            if (fits(law, without)) {
                return true;
            }
        }
        return false;
    }

    private int turnByLot() {
        int sum = 0;
        for (int p = 0; p < now.voters; p++) {
            if (isAwake(p) && now.draws()) {
                sum += pulls[p];
            }
        }
        return turnOf(sum, now.limit);
    }

    // ---- rows

    public int prove(int hour) {
        if (!isHour(hour)) {
            return BAD;
        }
        int n = firstPlan(hour, now.limit, MOST_PLAN);
        if (n < 0) {
            return NONE;
        }
        int shown = now.hour;
        int awake = now.awake;
        for (int k = 0; k < n; k++) {
            awake = acted(awake, plan[k]);
            int at = k * ROW_WIDTH;
            rows[at] = plan[k];
            rows[at + 1] = sumAt(shown, awake);
            shown = hourBehind(shown, awake);
            rows[at + 2] = shown;
        }
        rowCount = n;
        return n;
    }

    public int row(int k, int what) {
        return isInRow(k, what) ? rows[k * ROW_WIDTH + what] : NO_ROW;
    }

    public int alterRow(int k, int what, int v) {
        if (!isInRow(k, what)) {
            return 0;
        }
        int at = k * ROW_WIDTH + what;
        boolean same = rows[at] == v;
        rows[at] = v;
        return same ? 1 : 2;
    }

    public int judge(int hour) {
        if (!isHour(hour)) {
            return BAD;
        }
        int shown = now.hour;
        int awake = now.awake;
        for (int k = 0; k < rowCount; k++) {
            int at = k * ROW_WIDTH;
            if (!isAct(rows[at])) {
                return k + 1;
            }
            awake = acted(awake, rows[at]);
            int sum = sumAt(shown, awake);
            shown = moved(shown, turnOf(sum, now.limit));
            boolean isLast = k == rowCount - 1;
            if (rows[at + 1] != sum || rows[at + 2] != shown || isLast && shown != hour) {
                return k + 1;
            }
        }
        return 0;
    }

    private boolean isInRow(int k, int what) {
        return k >= 0 && k < rowCount && isIn(what, 0, ROW_WIDTH - 1);
    }

    // ---- the host

    public int sheet(int sheet, int sort, int n) {
        if (!isIn(sheet, 0, SHEETS - 1) || !isIn(sort, MISSING, BOOLEANS)) {
            return BAD;
        }
        if (sort != MISSING && n > MOST_ITEMS) {
            return BAD;
        }
        if (sort != MISSING && n < 0) {
            return BELOW_ZERO;
        }
        host.lay(sheet, sort, sort == MISSING ? 0 : n);
        return 1;
    }

    public int write(int sheet, int i, int v) {
        if (!isIn(sheet, 0, SHEETS - 1)) {
            return BAD;
        }
        if (host.sort[sheet] == MISSING) {
            return NOTHING;
        }
        if (!host.hasItem(sheet, i)) {
            return OUTSIDE;
        }
        host.set(sheet, i, v);
        return 1;
    }

    public int item(int sheet, int sort, int i) {
        if (!isIn(sheet, 0, SHEETS - 1) || !isIn(sort, 0, BOOLEANS)) {
            return BAD;
        }
        int refusal = host.refusalAs(sheet, sort);
        if (refusal < 0) {
            return refusal;
        }
        return host.hasItem(sheet, i) ? host.get(sheet, i) : OUTSIDE;
    }

    public int goAll(int sheet, int i, int n) {
        int refusal = refusalOfActs(sheet, n);
        if (refusal < 0) {
            return refusal;
        }
        int count = 0;
        for (int k = 0; k < n; k++) {
            if (!host.hasItem(sheet, i + k)) {
                return OUTSIDE;
            }
            int act = host.get(sheet, i + k);
            if (isAct(act) && now.noons < MOST_NOONS) {
                now.awake = acted(now.awake, act);
                count += sumAt(now.hour, now.awake) != 0 ? 1 : 0;
                now.goOn(turnNow());
            }
        }
        return count;
    }

    public int wouldBe(int sheet, int i, int n) {
        int refusal = refusalOfActs(sheet, n);
        if (refusal < 0) {
            return refusal;
        }
        int shown = now.hour;
        int awake = now.awake;
        int count = 0;
        for (int k = 0; k < n; k++) {
            if (!host.hasItem(sheet, i + k)) {
                return OUTSIDE;
            }
            int act = host.get(sheet, i + k);
            if (!isAct(act)) {
                return STATE;
            }
            awake = acted(awake, act);
            count += sumAt(shown, awake) != 0 ? 1 : 0;
            shown = hourBehind(shown, awake);
        }
        return 100 * count + shown;
    }

    public int shelf(int shelf, int what, int n) {
        if (!isIn(shelf, 0, SHELVES - 1)) {
            return BAD;
        }
        if (what == HOLDS_VOTER && isVoter(n)) {
            host.holdVoter(shelf, n);
        } else if (what == HOLDS_ROW && isIn(n, 0, SHEETS - 1)) {
            host.holdRow(shelf, n);
        } else if (what == HOLDS_NOTHING) {
            host.holdNothing(shelf);
        } else {
            return BAD;
        }
        return 1;
    }

    public int taken(int shelf, int as) {
        if (!isIn(shelf, 0, SHELVES - 1) || !isIn(as, VOTER, SLEEPER) && !isIn(as, AS_ROW, AS_ROW + BOOLEANS)) {
            return BAD;
        }
        if (host.held[shelf] == HOLDS_ROW) {
            return host.heldSort[shelf] + AS_ROW == as ? host.heldNumber[shelf] : OTHER_SORT;
        }
        int p = voterOn(shelf);
        if (!isVoter(p)) {
            return NOTHING;
        }
        return as < AS_ROW && isUnder(now.kind[p], as) ? p : OTHER_SORT;
    }

    public int act(int shelf, int act, int x) {
        bodies.count = 0;
        bodies.isParted = false;
        int p = voterOn(shelf);
        if (!isVoter(p) || !isIn(act, 0, 3)) {
            return 0;
        }
        Thing thing = things[now.kind[p]];
        thing.number = p;
        thing.want = now.want[p];
        int answer = act == 0 ? thing.wishes(x)
            : act == 1 ? thing.sways(x)
            : act == 2 ? thing.shares(x)
            : thing.tells(x);
        return bodies.isParted ? PARTED_BY_0 : answer;
    }

    public int trace(int i) {
        return i >= 0 && i < bodies.count ? bodies.ran[i] : NONE;
    }

    public int many(int what) {
        switch (what) {
            case 0: return now.voters;
            case 1: return now.laws.count;
            case 2: return now.noons;
            case 3: return now.reports;
            case 4: return rowCount;
            case 5: return reader.size;
            case 6: return bodies.count;
            default: return BAD;
        }
    }

    private int refusalOfActs(int sheet, int n) {
        if (!isIn(sheet, 0, SHEETS - 1) || !isIn(n, 0, MOST_TAKEN)) {
            return BAD;
        }
        return host.refusalAs(sheet, BYTES);
    }

    private int voterOn(int shelf) {
        boolean holds = isIn(shelf, 0, SHELVES - 1) && host.held[shelf] == HOLDS_VOTER;
        return holds ? host.heldNumber[shelf] : NONE;
    }

    private static boolean isUnder(int kind, int above) {
        return above == VOTER || above == kind || above == DEBTOR && kind == SHIFT || above == BAKER && kind == SLEEPER;
    }

    // ---- kept

    public int keep() {
        kept.copyFrom(now);
        isKept = true;
        return 1;
    }

    public int again() {
        if (!isKept) {
            return NONE;
        }
        now.copyFrom(kept);
        forgetSums();
        return now.voters;
    }

    /** All that keep() keeps. */
    private static final class Republic {
        int voters;
        final int[] kind = new int[MOST_VOTERS];
        final int[] want = new int[MOST_VOTERS];
        final int[] weight = new int[MOST_VOTERS];
        final int[] price = new int[MOST_VOTERS];
        int awake;
        int hour;
        int noons;
        int limit;
        int lag;
        int z = 1;
        int reports;
        final int[] reportNoon = new int[MOST_REPORTS];
        final int[] reportHour = new int[MOST_REPORTS];
        final Rules laws = new Rules();

        int goOn(int turn) {
            hour = moved(hour, turn);
            lag = moved(lag, turn);
            noons++;
            return hour;
        }

        boolean draws() {
            z = z * 1103515245 + 12345;
            return (z >>> 16 & 1) == 1;
        }

        void copyFrom(Republic other) {
            voters = other.voters;
            System.arraycopy(other.kind, 0, kind, 0, MOST_VOTERS);
            System.arraycopy(other.want, 0, want, 0, MOST_VOTERS);
            System.arraycopy(other.weight, 0, weight, 0, MOST_VOTERS);
            System.arraycopy(other.price, 0, price, 0, MOST_VOTERS);
            awake = other.awake;
            hour = other.hour;
            noons = other.noons;
            limit = other.limit;
            lag = other.lag;
            z = other.z;
            reports = other.reports;
            System.arraycopy(other.reportNoon, 0, reportNoon, 0, MOST_REPORTS);
            System.arraycopy(other.reportHour, 0, reportHour, 0, MOST_REPORTS);
            laws.copyFrom(other.laws);
        }
    }

    /** RULES, their conditions as steps over a stack of truths (what is compared ahead of what is joined). */
    private static final class Rules {
        int count;
        final int[] kind = new int[MOST_RULES];
        final int[] deed = new int[MOST_RULES];
        final int[] by = new int[MOST_RULES];
        // where the steps of a RULE's condition end; they begin where those of the RULE ahead of it end
        final int[] stepsEnd = new int[MOST_RULES];
        int steps;
        final int[] step = new int[MOST_BYTES];
        final int[] left = new int[MOST_BYTES];
        final int[] right = new int[MOST_BYTES];
        int valueCount = FACTS;
        // FACTS, and behind them the NUMBERS of all conditions
        final int[] values = new int[FACTS + MOST_BYTES];

        void clear() {
            count = 0;
            steps = 0;
            valueCount = FACTS;
        }

        int addValue(int number) {
            if (valueCount < values.length) {
                values[valueCount] = number;
                valueCount++;
            }
            return valueCount - 1;
        }

        void addStep(int word, int leftValue, int rightValue) {
            if (steps < MOST_BYTES) {
                step[steps] = word;
                left[steps] = leftValue;
                right[steps] = rightValue;
                steps++;
            }
        }

        void addRule(int ofKind, int does, int number) {
            if (count < MOST_RULES) {
                kind[count] = ofKind;
                deed[count] = does;
                by[count] = number;
                stepsEnd[count] = steps;
                count++;
            }
        }

        void copyFrom(Rules other) {
            count = other.count;
            System.arraycopy(other.kind, 0, kind, 0, MOST_RULES);
            System.arraycopy(other.deed, 0, deed, 0, MOST_RULES);
            System.arraycopy(other.by, 0, by, 0, MOST_RULES);
            System.arraycopy(other.stepsEnd, 0, stepsEnd, 0, MOST_RULES);
            steps = other.steps;
            System.arraycopy(other.step, 0, step, 0, steps);
            System.arraycopy(other.left, 0, left, 0, steps);
            System.arraycopy(other.right, 0, right, 0, steps);
            valueCount = other.valueCount;
            System.arraycopy(other.values, 0, values, 0, valueCount);
        }

        /** WEIGHT w as the first RULE that is for it changes it; FACTS stand in values. */
        int weigh(int ofKind, int w) {
            for (int r = 0; r < count; r++) {
                if (isUnder(ofKind, kind[r]) && holds(r)) {
                    return deed[r] == MORE ? w + by[r] : deed[r] == LESS ? Math.max(0, w - by[r]) : 0;
                }
            }
            return w;
        }

        private boolean holds(int r) {
            // no condition: it holds
            int truths = 1;
            for (int at = r == 0 ? 0 : stepsEnd[r - 1]; at < stepsEnd[r]; at++) {
                int a = values[left[at]];
                int b = values[right[at]];
                switch (step[at]) {
                    case BELOW: truths = truths << 1 | (a < b ? 1 : 0); break;
                    case SAME: truths = truths << 1 | (a == b ? 1 : 0); break;
                    case ABOVE: truths = truths << 1 | (a > b ? 1 : 0); break;
                    case NOT: truths ^= 1; break;
                    case AND: truths = truths >> 1 & (truths | ~1); break;
                    default: truths = truths >> 1 | truths & 1; break;
                }
            }
            return (truths & 1) == 1;
        }
    }

    /** Takes THE TAPE, cuts it into words, and reads RULES from these. */
    private static final class RuleReader {
        int size;
        final Rules draft = new Rules();
        private final int[] tape = new int[MOST_BYTES];
        private int words;
        private final int[] word = new int[MOST_BYTES + 1];
        private final int[] place = new int[MOST_BYTES + 1];
        // where a FACT or a NUMBER stands among the draft's values
        private final int[] value = new int[MOST_BYTES + 1];
        // the word that is read next; END is never gone past
        private int at;

        int take(long eight, int n) {
            for (int i = 0; i < n && size < MOST_BYTES; i++) {
                tape[size] = (int) (eight >>> 8 * i) & 255;
                size++;
            }
            return size;
        }

        /** Uses THE TAPE up for RULES in draft: -1, or the FAULT. */
        int read() {
            draft.clear();
            cutWords();
            size = 0;
            at = 0;
            boolean reads = true;
            for (int r = 0; r < MOST_RULES && reads && word[at] != END; r++) {
                reads = readRule();
            }
            return word[at] == END && reads ? -1 : place[at];
        }

        private void cutWords() {
            words = 0;
            int to;
            for (int from = 0; from < size; from = to) {
                to = from + 1;
                if (isLetter(tape[from])) {
                    while (to < size && isLetter(tape[to])) {
                        to++;
                    }
                    int name = nameAt(from, to);
                    addWord(name, from, isIn(name, WORD_FACT, WORD_FACT + FACTS - 1) ? name - WORD_FACT : NONE);
                } else if (isDigit(tape[from])) {
                    while (to < size && isDigit(tape[to])) {
                        to++;
                    }
                    addNumber(from, to);
                } else if (tape[from] != ' ') {
                    addWord(signOf(tape[from]), from, NONE);
                }
            }
            addWord(END, size, NONE);
        }

        private void addWord(int what, int from, int valueAt) {
            if (words <= MOST_BYTES) {
                word[words] = what;
                place[words] = from;
                value[words] = valueAt;
                words++;
            }
        }

        private void addNumber(int from, int to) {
            if (to - from > MOST_DIGITS) {
                addWord(JUNK, from, NONE);
                return;
            }
            int number = 0;
            for (int i = from; i < to; i++) {
                number = number * 10 + tape[i] - '0';
            }
            addWord(DIGITS, from, draft.addValue(number));
        }

        private static boolean isLetter(int c) {
            return c >= 'a' && c <= 'z';
        }

        private static boolean isDigit(int c) {
            return c >= '0' && c <= '9';
        }

        private static int signOf(int c) {
            switch (c) {
                case '<': return BELOW;
                case '=': return SAME;
                case '>': return ABOVE;
                case '(': return OPEN;
                case ')': return CLOSE;
                case ';': return SEMICOLON;
                default: return JUNK;
            }
        }

        private int nameAt(int from, int to) {
            return spells(from, to, "voter") ? VOTER
                : spells(from, to, "lover") ? LOVER
                : spells(from, to, "debtor") ? DEBTOR
                : spells(from, to, "shift") ? SHIFT
                : spells(from, to, "baker") ? BAKER
                : spells(from, to, "sleeper") ? SLEEPER
                : spells(from, to, "hour") ? WORD_FACT + FACT_HOUR
                : spells(from, to, "want") ? WORD_FACT + FACT_WANT
                : spells(from, to, "weight") ? WORD_FACT + FACT_WEIGHT
                : spells(from, to, "awake") ? WORD_FACT + FACT_AWAKE
                : spells(from, to, "number") ? WORD_FACT + FACT_NUMBER
                : spells(from, to, "if") ? IF
                : spells(from, to, "and") ? AND
                : spells(from, to, "or") ? OR
                : spells(from, to, "not") ? NOT
                : spells(from, to, "more") ? MORE
                : spells(from, to, "less") ? LESS
                : spells(from, to, "nil") ? NIL
                : JUNK;
        }

        private boolean spells(int from, int to, String name) {
            boolean same = to - from == name.length();
            for (int i = from; same && i < to; i++) {
                same = tape[i] == name.charAt(i - from);
            }
            return same;
        }

        private boolean goPast(int what) {
            if (word[at] != what || what == END) {
                return false;
            }
            at++;
            return true;
        }

        private boolean readRule() {
            int kind = word[at];
            if (!isIn(kind, VOTER, SLEEPER)) {
                return false;
            }
            at++;
            if (goPast(IF) && !readCond(0)) {
                return false;
            }
            int deed = word[at];
            if (!isIn(deed, MORE, NIL)) {
                return false;
            }
            at++;
            int by = 0;
            if (deed != NIL) {
                by = word[at] == DIGITS ? draft.values[value[at]] : NONE;
                if (!isIn(by, 0, MOST_BY)) {
                    return false;
                }
                at++;
            }
            draft.addRule(kind, deed, by);
            return goPast(SEMICOLON);
        }

        private boolean readCond(int open) {
            boolean reads = readAll(open);
            for (int i = 0; i < MOST_BYTES && reads && goPast(OR); i++) {
                reads = readAll(open);
                draft.addStep(OR, 0, 0);
            }
            return reads;
        }

        private boolean readAll(int open) {
            boolean reads = readOne(open);
            for (int i = 0; i < MOST_BYTES && reads && goPast(AND); i++) {
                reads = readOne(open);
                draft.addStep(AND, 0, 0);
            }
            return reads;
        }

        private boolean readOne(int open) {
            boolean isNot = false;
            for (int i = 0; i < MOST_BYTES && goPast(NOT); i++) {
                isNot = !isNot;
            }
            boolean reads = open < MOST_OPEN && goPast(OPEN)
                ? readCond(open + 1) && goPast(CLOSE)
                : readComparison();
            if (isNot) {
                draft.addStep(NOT, 0, 0);
            }
            return reads;
        }

        private boolean readComparison() {
            int left = value[at];
            if (left < 0) {
                return false;
            }
            at++;
            int sign = word[at];
            if (!isIn(sign, BELOW, ABOVE)) {
                return false;
            }
            at++;
            int right = value[at];
            if (right < 0) {
                return false;
            }
            at++;
            draft.addStep(sign, left, right);
            return true;
        }
    }

    /** SHEETS, and what SHELVES hold: a VOTER by its number, a row by its sort and how many items it has. */
    private static final class Host {
        final int[] sort = {MISSING, MISSING, MISSING, MISSING};
        final int[] held = {HOLDS_NOTHING, HOLDS_NOTHING, HOLDS_NOTHING, HOLDS_NOTHING};
        final int[] heldSort = new int[SHELVES];
        final int[] heldNumber = new int[SHELVES];
        private final int[] items = new int[SHEETS];
        private final int[] item = new int[SHEETS * MOST_ITEMS];

        void lay(int sheet, int ofSort, int n) {
            sort[sheet] = ofSort;
            items[sheet] = n;
            for (int i = 0; i < n; i++) {
                item[sheet * MOST_ITEMS + i] = 0;
            }
        }

        boolean hasItem(int sheet, int i) {
            return i >= 0 && i < items[sheet];
        }

        int get(int sheet, int i) {
            return item[sheet * MOST_ITEMS + i];
        }

        // an int fills the lowest 32 bits of a long, and no more of it is ever asked
        void set(int sheet, int i, int v) {
            int narrowed = v;
            if (sort[sheet] == BYTES) {
                narrowed = (byte) v;
            } else if (sort[sheet] == SHORTS) {
                narrowed = (short) v;
            } else if (sort[sheet] == BOOLEANS) {
                narrowed = v != 0 ? 1 : 0;
            }
            item[sheet * MOST_ITEMS + i] = narrowed;
        }

        /** Why a SHEET can't be taken for a sort, or 0. */
        int refusalAs(int sheet, int as) {
            return sort[sheet] == MISSING ? NOTHING : sort[sheet] == as ? 0 : OTHER_SORT;
        }

        void holdVoter(int shelf, int p) {
            held[shelf] = HOLDS_VOTER;
            heldNumber[shelf] = p;
        }

        void holdRow(int shelf, int sheet) {
            held[shelf] = sort[sheet] == MISSING ? HOLDS_NOTHING : HOLDS_ROW;
            heldSort[shelf] = sort[sheet];
            heldNumber[shelf] = items[sheet];
        }

        void holdNothing(int shelf) {
            held[shelf] = HOLDS_NOTHING;
        }
    }

    /** THE TRACE, and whether a number was parted by 0 in it. */
    private static final class Trace {
        int count;
        boolean isParted;
        final int[] ran = new int[MOST_TRACE];

        void begins(int body) {
            if (count < MOST_TRACE) {
                ran[count] = body;
                count++;
            }
        }
    }

    /** What a VOTER does by its KIND: here what all do whose KIND has nothing of its own. */
    private static class Thing {
        final Trace bodies;
        int number;
        int want;

        Thing(Trace trace) {
            bodies = trace;
        }

        int powerOf(int w, int hour) {
            return w;
        }

        int wishes(int x) {
            bodies.begins(10);
            return x + want;
        }

        int sways(int x) {
            bodies.begins(11);
            return wishes(x) - number;
        }

        int shares(int x) {
            bodies.begins(12);
            int by = want - number;
            if (by == 0) {
                bodies.isParted = true;
                return 0;
            }
            return x / by;
        }

        int tells(int x) {
            bodies.begins(13);
            return sways(x) ^ want;
        }
    }

    private static final class Lover extends Thing {
        Lover(Trace trace) {
            super(trace);
        }

        int wishes(int x) {
            bodies.begins(20);
            return super.wishes(x) * 2;
        }
    }

    private static class Debtor extends Thing {
        Debtor(Trace trace) {
            super(trace);
        }

        int powerOf(int w, int hour) {
            return hour >= 12 ? w + 2 : w;
        }

        int sways(int x) {
            bodies.begins(30);
            return super.sways(x) ^ number;
        }
    }

    private static final class Shift extends Debtor {
        Shift(Trace trace) {
            super(trace);
        }

        int powerOf(int w, int hour) {
            return 3 * super.powerOf(w, hour);
        }

        int wishes(int x) {
            bodies.begins(50);
            return super.wishes(x) - 1;
        }

        int tells(int x) {
            bodies.begins(51);
            return super.tells(x) + shares(want);
        }
    }

    private static class Baker extends Thing {
        Baker(Trace trace) {
            super(trace);
        }

        int powerOf(int w, int hour) {
            return w / 2;
        }

        int shares(int x) {
            bodies.begins(40);
            return super.shares(x - 3);
        }
    }

    private static final class Sleeper extends Baker {
        Sleeper(Trace trace) {
            super(trace);
        }

        int powerOf(int w, int hour) {
            return hour < 6 ? 0 : super.powerOf(w, hour);
        }

        int sways(int x) {
            bodies.begins(60);
            return 0 - super.sways(x);
        }

        int shares(int x) {
            bodies.begins(61);
            int shared = super.shares(x);
            // what is parted by 0 ends the ACT: no body begins behind it
            return bodies.isParted ? 0 : shared - wishes(number);
        }
    }
}
