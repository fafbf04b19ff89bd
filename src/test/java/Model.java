import java.util.ArrayList;
import java.util.Arrays;
import java.util.HashSet;
import java.util.List;
import java.util.Set;

/**
 * The document told a second time, as plainly as the library allows: states are copied whole, plans are
 * tried one by one, conditions are worked out on their words. RandomRunsTest holds the class against it.
 */
final class Model {
    private static final int BAD = -1, FULL = -2, NONE = -3, STATE = -4;
    private static final int[] UNDER = {-1, 0, 0, 2, 0, 4};
    private static final List<String> KINDS = List.of("voter", "lover", "debtor", "shift", "baker", "sleeper");
    private static final Set<String> FACTS = Set.of("hour", "want", "weight", "awake", "number");

    private static final class Person {
        int kind, want, weight, price;
        boolean awake = true;

        Person copy() {
            Person p = new Person();
            p.kind = kind;
            p.want = want;
            p.weight = weight;
            p.price = price;
            p.awake = awake;
            return p;
        }
    }

    private record Law(int kind, List<String> condition, String deed, int by) {
    }

    private static final class Land {
        List<Person> people = new ArrayList<>();
        List<Law> laws = new ArrayList<>();
        List<int[]> reports = new ArrayList<>();
        int hour, noons, limit, lag, z = 1;

        Land copy() {
            Land l = new Land();
            for (Person p : people) {
                l.people.add(p.copy());
            }
            l.laws = new ArrayList<>(laws);
            l.reports = new ArrayList<>(reports);
            l.hour = hour;
            l.noons = noons;
            l.limit = limit;
            l.lag = lag;
            l.z = z;
            return l;
        }

        int awakeCount() {
            int n = 0;
            for (Person p : people) {
                n += p.awake ? 1 : 0;
            }
            return n;
        }

        int vote(int p) {
            int h = hour;
            for (int d = 0; d < 24; d++) {
                if (h == people.get(p).want) {
                    return d == 0 ? 0 : d <= 12 ? 1 : -1;
                }
                h = h == 23 ? 0 : h + 1;
            }
            throw new IllegalStateException();
        }

        int power(int p) {
            Person v = people.get(p);
            int w = v.weight;
            for (Law law : laws) {
                if (isA(v.kind, law.kind) && (law.condition.isEmpty() || truth(law.condition, p))) {
                    w = law.deed.equals("nil") ? 0 : law.deed.equals("more") ? w + law.by : Math.max(w - law.by, 0);
                    break;
                }
            }
            int debt = hour >= 12 ? w + 2 : w;
            int[] all = {w, w, debt, 3 * debt, w / 2, hour < 6 ? 0 : w / 2};
            return all[v.kind];
        }

        boolean truth(List<String> words, int p) {
            for (String join : new String[] {"or", "and"}) {
                int open = 0;
                for (int i = words.size() - 1; i >= 0; i--) {
                    open += words.get(i).equals(")") ? 1 : words.get(i).equals("(") ? -1 : 0;
                    if (open == 0 && words.get(i).equals(join)) {
                        boolean left = truth(words.subList(0, i), p);
                        boolean right = truth(words.subList(i + 1, words.size()), p);
                        return join.equals("or") ? left || right : left && right;
                    }
                }
            }
            if (words.get(0).equals("not")) {
                return !truth(words.subList(1, words.size()), p);
            }
            if (words.get(0).equals("(")) {
                return truth(words.subList(1, words.size() - 1), p);
            }
            int a = value(words.get(0), p);
            int b = value(words.get(2), p);
            String sign = words.get(1);
            return sign.equals("<") ? a < b : sign.equals("=") ? a == b : a > b;
        }

        int value(String word, int p) {
            switch (word) {
                case "hour": return hour;
                case "want": return people.get(p).want;
                case "weight": return people.get(p).weight;
                case "awake": return awakeCount();
                case "number": return p;
                default: return Integer.parseInt(word);
            }
        }

        int sum() {
            int s = 0;
            for (int p = 0; p < people.size(); p++) {
                s += people.get(p).awake ? vote(p) * power(p) : 0;
            }
            return s;
        }

        int turn(int s) {
            return s > limit ? 1 : s < 0 - limit ? -1 : 0;
        }

        Land go(int turn) {
            hour = (hour + 24 + turn) % 24;
            lag = (lag + 24 + turn) % 24;
            noons++;
            return this;
        }

        Land go() {
            return go(turn(sum()));
        }

        Land act(int a) {
            if (a > 0) {
                people.get(a - 1).awake = !people.get(a - 1).awake;
            }
            return this;
        }

        int[] sumsOfLot() {
            int s = 0;
            for (int p = 0; p < people.size(); p++) {
                if (people.get(p).awake) {
                    z = z * 1103515245 + 12345;
                    s += (z >>> 16) % 2 == 1 ? vote(p) * power(p) : 0;
                }
            }
            return new int[] {s};
        }
    }

    private Land now = new Land();
    private Land kept;
    private List<Integer> tape = new ArrayList<>();
    private int[][] rows = {};
    private final int[][] sheets = new int[4][];
    private final int[] sorts = {-1, -1, -1, -1};
    private final Object[] shelves = new Object[4];
    private List<Integer> trace = new ArrayList<>();

    private static boolean isA(int kind, int above) {
        for (int k = kind; k >= 0; k = UNDER[k]) {
            if (k == above) {
                return true;
            }
        }
        return false;
    }

    private static boolean in(int v, int a, int b) {
        return a <= v && v <= b;
    }

    private boolean isVoter(int p) {
        return in(p, 0, now.people.size() - 1);
    }

    int voter(int kind, int want, int weight, int price) {
        if (!in(kind, 1, 5) || !in(want, 0, 23) || !in(weight, 1, 9) || !in(price, 0, 99)) {
            return BAD;
        }
        if (now.people.size() == 7) {
            return FULL;
        }
        Person p = new Person();
        p.kind = kind;
        p.want = want;
        p.weight = weight;
        p.price = price;
        now.people.add(p);
        return now.people.size() - 1;
    }

    int voterOf(int p, int what) {
        if (!isVoter(p) || !in(what, 0, 6)) {
            return BAD;
        }
        Person v = now.people.get(p);
        return new int[] {v.kind, v.want, v.weight, v.price, v.awake ? 1 : 0, now.vote(p) + 1, now.power(p)}[what];
    }

    int change(int p, int what, int v) {
        if (!isVoter(p) || !in(what, 1, 3)) {
            return BAD;
        }
        if (what == 1 && !in(v, 0, 23) || what == 2 && !in(v, 1, 9) || what == 3 && !in(v, 0, 99)) {
            return BAD;
        }
        int was = voterOf(p, what);
        Person q = now.people.get(p);
        if (what == 1) {
            q.want = v;
        } else if (what == 2) {
            q.weight = v;
        } else {
            q.price = v;
        }
        return was;
    }

    int remake(int p, int kind) {
        if (!isVoter(p) || !in(kind, 1, 5)) {
            return BAD;
        }
        int was = now.people.get(p).kind;
        now.people.get(p).kind = kind;
        return was;
    }

    int wakes(int p, boolean is) {
        if (!isVoter(p)) {
            return BAD;
        }
        int was = voterOf(p, 4);
        now.people.get(p).awake = is;
        return was;
    }

    int clock(int v) {
        if (!in(v, 0, 23)) {
            return BAD;
        }
        int was = now.hour;
        now.hour = v;
        return was;
    }

    int limit(int v) {
        if (!in(v, 0, 99)) {
            return BAD;
        }
        int was = now.limit;
        now.limit = v;
        return was;
    }

    int state(int what) {
        int set = 0;
        for (int p = 0; p < now.people.size(); p++) {
            set += now.people.get(p).awake ? 1 << p : 0;
        }
        return in(what, 0, 4) ? new int[] {now.hour, now.noons, now.limit, set, now.lag}[what] : BAD;
    }

    int feed(long eight, int n) {
        if (!in(n, 1, 8)) {
            return BAD;
        }
        if (tape.size() + n > 200) {
            return FULL;
        }
        for (int i = 0; i < n; i++) {
            tape.add((int) (eight & 255));
            eight >>= 8;
        }
        return tape.size();
    }

    int rules() {
        StringBuilder b = new StringBuilder();
        for (int c : tape) {
            b.append((char) c);
        }
        tape = new ArrayList<>();
        String text = b.toString();
        List<Law> laws = new ArrayList<>();
        int fault = parse(text, laws);
        if (fault >= 0) {
            return -100 - fault;
        }
        now.laws = laws;
        return laws.size();
    }

    /** A machine of states over the words: what may come next is asked of the state alone. */
    private static int parse(String text, List<Law> laws) {
        java.util.regex.Matcher m = java.util.regex.Pattern.compile("[a-z]+|[0-9]+|[^ ]", java.util.regex.Pattern.DOTALL).matcher(text);
        String state = "kind";
        int kind = 0;
        int open = 0;
        List<String> condition = new ArrayList<>();
        String deed = "";
        int by = 0;
        while (m.find()) {
            String w = m.group();
            boolean number = w.matches("[0-9]{1,4}");
            boolean value = number || FACTS.contains(w);
            boolean does = w.equals("more") || w.equals("less") || w.equals("nil");
            String next = null;
            if (state.equals("kind") && laws.size() < 8 && KINDS.contains(w)) {
                kind = KINDS.indexOf(w);
                condition = new ArrayList<>();
                by = 0;
                next = "if or do";
            } else if (state.equals("if or do") && w.equals("if")) {
                next = "one";
            } else if (state.equals("one") && (w.equals("not") || w.equals("(") && open < 3)) {
                open += w.equals("(") ? 1 : 0;
                next = "one";
            } else if (state.equals("one") && value) {
                next = "sign";
            } else if (state.equals("sign") && (w.equals("<") || w.equals("=") || w.equals(">"))) {
                next = "second";
            } else if (state.equals("second") && value) {
                next = "joined";
            } else if (state.equals("joined") && (w.equals("and") || w.equals("or"))) {
                next = "one";
            } else if (state.equals("joined") && w.equals(")") && open > 0) {
                open--;
                next = "joined";
            } else if ((state.equals("if or do") || state.equals("joined") && open == 0) && does) {
                deed = w;
                next = w.equals("nil") ? ";" : "by";
            } else if (state.equals("by") && number && Integer.parseInt(w) <= 99) {
                by = Integer.parseInt(w);
                next = ";";
            } else if (state.equals(";") && w.equals(";")) {
                laws.add(new Law(kind, condition, deed, by));
                next = "kind";
            } else {
                return m.start();
            }
            if (List.of("one", "sign", "second", "joined").contains(next) && !w.equals("if")) {
                condition.add(w);
            }
            state = next;
        }
        return state.equals("kind") ? -1 : text.length();
    }

    int sum() {
        return now.sum();
    }

    int noon() {
        return now.noons >= 9999 ? STATE : now.go().hour;
    }

    int on(int n) {
        if (!in(n, 0, 60)) {
            return BAD;
        }
        Land l = now.copy();
        for (int i = 0; i < n; i++) {
            l.go();
        }
        return l.hour;
    }

    int when(int hour) {
        if (!in(hour, 0, 23)) {
            return BAD;
        }
        for (int n = 0; n <= 60; n++) {
            if (on(n) == hour) {
                return n;
            }
        }
        return NONE;
    }

    int cycle(int what) {
        if (!in(what, 0, 1)) {
            return BAD;
        }
        Set<Integer> round = new HashSet<>();
        for (int n = 30; n <= 60; n++) {
            round.add(on(n));
        }
        int n = 0;
        while (!round.contains(on(n))) {
            n++;
        }
        return what == 0 ? n : round.size();
    }

    private int price(int set) {
        int s = 0;
        for (int p = 0; p < now.people.size(); p++) {
            s += (set >> p & 1) * now.people.get(p).price;
        }
        return s;
    }

    private int lull(int turn) {
        List<int[]> all = new ArrayList<>();
        for (int set = 0; set < 1 << now.people.size(); set++) {
            Land l = now.copy();
            boolean can = true;
            for (int p = 0; p < now.people.size(); p++) {
                if ((set >> p & 1) == 1) {
                    can &= now.people.get(p).awake;
                    l.people.get(p).awake = false;
                }
            }
            if (can && l.turn(l.sum()) == turn - 1) {
                all.add(new int[] {price(set), Integer.bitCount(set), set});
            }
        }
        all.sort((a, b) -> a[0] != b[0] ? a[0] - b[0] : a[1] != b[1] ? a[1] - b[1] : a[2] - b[2]);
        return all.isEmpty() ? NONE : all.get(0)[2];
    }

    int buys(int turn) {
        return !in(turn, 0, 2) ? BAD : lull(turn) < 0 ? NONE : price(lull(turn));
    }

    int whom(int turn) {
        return !in(turn, 0, 2) ? BAD : lull(turn);
    }

    private int hourBehind(int[] votes) {
        int s = 0;
        for (int p = 0; p < votes.length; p++) {
            s += votes[p] * now.power(p);
        }
        return (now.hour + 24 + now.turn(s)) % 24;
    }

    private int[] votes() {
        int[] votes = new int[now.people.size()];
        for (int p = 0; p < votes.length; p++) {
            votes[p] = now.people.get(p).awake ? now.vote(p) : 0;
        }
        return votes;
    }

    int liars() {
        int set = 0;
        for (int p = 0; p < now.people.size(); p++) {
            int want = now.people.get(p).want;
            for (int v = -1; v <= 1 && now.people.get(p).awake; v++) {
                int[] votes = votes();
                int d = Math.abs(hourBehind(votes) - want);
                votes[p] = v;
                int e = Math.abs(hourBehind(votes) - want);
                if (Math.min(e, 24 - e) < Math.min(d, 24 - d)) {
                    set |= 1 << p;
                }
            }
        }
        return set;
    }

    int power(int p) {
        if (!isVoter(p)) {
            return BAD;
        }
        if (!now.people.get(p).awake) {
            return 0;
        }
        int count = 0;
        for (int set = 0; set < 1 << now.people.size(); set++) {
            int[] with = votes();
            int[] without = votes();
            boolean can = (set >> p & 1) == 0;
            without[p] = 0;
            for (int q = 0; q < with.length; q++) {
                if ((set >> q & 1) == 1) {
                    can &= now.people.get(q).awake;
                } else if (q != p) {
                    with[q] = 0;
                    without[q] = 0;
                }
            }
            count += can && hourBehind(with) != hourBehind(without) ? 1 : 0;
        }
        return count;
    }

    /** All PLANS of n NOONS, the FIRST first. */
    private List<int[]> plans(int n) {
        List<int[]> all = new ArrayList<>();
        all.add(new int[0]);
        for (int k = 0; k < n; k++) {
            List<int[]> longer = new ArrayList<>();
            for (int[] plan : all) {
                for (int act = 0; act <= now.people.size(); act++) {
                    int[] more = Arrays.copyOf(plan, k + 1);
                    more[k] = act;
                    longer.add(more);
                }
            }
            all = longer;
        }
        return all;
    }

    private int endOf(int[] plan, int limit) {
        Land l = now.copy();
        l.limit = limit;
        for (int act : plan) {
            l.act(act).go();
        }
        return l.hour;
    }

    private int[] first(int hour) {
        for (int n = 0; n <= 4; n++) {
            for (int[] plan : plans(n)) {
                if (endOf(plan, now.limit) == hour) {
                    return plan;
                }
            }
        }
        return null;
    }

    int fewest(int hour) {
        if (!in(hour, 0, 23)) {
            return BAD;
        }
        int[] plan = first(hour);
        return plan == null ? NONE : plan.length;
    }

    int ith(int hour, int i) {
        if (!in(hour, 0, 23) || !in(i, 0, 3)) {
            return BAD;
        }
        int[] plan = first(hour);
        return plan == null || i >= plan.length ? NONE : plan[i];
    }

    int ways(int hour, int n) {
        if (!in(hour, 0, 23) || !in(n, 0, 4)) {
            return BAD;
        }
        int count = 0;
        for (int[] plan : plans(n)) {
            count += endOf(plan, now.limit) == hour ? 1 : 0;
        }
        return count;
    }

    int hours(int n) {
        if (!in(n, 0, 4)) {
            return BAD;
        }
        int set = 0;
        for (int[] plan : plans(n)) {
            set |= 1 << endOf(plan, now.limit);
        }
        return set;
    }

    int limitFor(int hour, int n) {
        if (!in(hour, 0, 23) || !in(n, 1, 3)) {
            return BAD;
        }
        int best = NONE;
        for (int k = 0; k <= n; k++) {
            for (int[] plan : plans(k)) {
                for (int limit = best < 0 ? 0 : best + 1; limit <= 99; limit++) {
                    if (endOf(plan, limit) == hour) {
                        best = limit;
                    }
                }
            }
        }
        return best;
    }

    private int value(Land l, int left, boolean first) {
        if (left == 0) {
            return 0;
        }
        int best = first ? -99 : 99;
        for (int act = 0; act <= l.people.size(); act++) {
            int v = valueOf(l, act, left, first);
            best = first ? Math.max(best, v) : Math.min(best, v);
        }
        return best;
    }

    private int valueOf(Land l, int act, int left, boolean first) {
        Land m = l.copy().act(act);
        int turn = m.turn(m.sum());
        return turn + value(m.go(turn), left - 1, !first);
    }

    int game(int n) {
        return in(n, 1, 4) ? 10 + value(now, n, true) : BAD;
    }

    int play(int n) {
        if (!in(n, 1, 4)) {
            return BAD;
        }
        for (int act = 0; act <= now.people.size(); act++) {
            if (valueOf(now, act, n, true) == value(now, n, true)) {
                return act;
            }
        }
        throw new IllegalStateException();
    }

    int report(int noon, int shown) {
        if (!in(noon, 0, 60) || !in(shown, 0, 23)) {
            return BAD;
        }
        if (now.reports.size() == 6) {
            return FULL;
        }
        now.reports.add(new int[] {noon, shown});
        return now.reports.size() - 1;
    }

    int forget() {
        int were = now.reports.size();
        now.reports = new ArrayList<>();
        return were;
    }

    private static List<int[]> fitting(List<int[]> reports) {
        List<int[]> laws = new ArrayList<>();
        for (int step = -1; step <= 1; step++) {
            for (int start = 0; start < 24; start++) {
                boolean fits = true;
                for (int[] r : reports) {
                    fits &= (start + r[0] * step + 2400) % 24 == r[1];
                }
                if (fits) {
                    laws.add(new int[] {step, start});
                }
            }
        }
        return laws;
    }

    int span(int what) {
        List<int[]> laws = fitting(now.reports);
        if (!in(what, 0, 2)) {
            return BAD;
        }
        return what == 0 ? laws.size() : laws.isEmpty() ? NONE : what == 1 ? laws.get(0)[0] + 1 : laws.get(0)[1];
    }

    int liar() {
        if (!fitting(now.reports).isEmpty()) {
            return NONE;
        }
        for (int r = 0; r < now.reports.size(); r++) {
            List<int[]> others = new ArrayList<>(now.reports);
            others.remove(r);
            if (!fitting(others).isEmpty()) {
                return r;
            }
        }
        return NONE;
    }

    int seed(int v) {
        int was = now.z;
        now.z = v;
        return was;
    }

    int lot() {
        return now.noons >= 9999 ? STATE : now.go(now.turn(now.sumsOfLot()[0])).hour;
    }

    int often(int n, int hour) {
        if (!in(n, 1, 60) || !in(hour, 0, 23)) {
            return BAD;
        }
        int count = 0;
        int z = now.z;
        for (int i = 0; i < n; i++) {
            Land l = now.copy();
            l.z = z;
            count += l.go(l.turn(l.sumsOfLot()[0])).hour == hour ? 1 : 0;
            z = l.z;
        }
        return count;
    }

    int prove(int hour) {
        if (!in(hour, 0, 23)) {
            return BAD;
        }
        int[] plan = first(hour);
        if (plan == null) {
            return NONE;
        }
        rows = new int[plan.length][];
        Land l = now.copy();
        for (int k = 0; k < plan.length; k++) {
            int s = l.act(plan[k]).sum();
            rows[k] = new int[] {plan[k], s, l.go().hour};
        }
        return rows.length;
    }

    int row(int k, int what) {
        return in(k, 0, rows.length - 1) && in(what, 0, 2) ? rows[k][what] : -9;
    }

    int alterRow(int k, int what, int v) {
        if (!in(k, 0, rows.length - 1) || !in(what, 0, 2)) {
            return 0;
        }
        int was = rows[k][what];
        rows[k][what] = v;
        return was == v ? 1 : 2;
    }

    int judge(int hour) {
        if (!in(hour, 0, 23)) {
            return BAD;
        }
        Land l = now.copy();
        for (int k = 0; k < rows.length; k++) {
            if (!in(rows[k][0], 0, l.people.size()) || l.act(rows[k][0]).sum() != rows[k][1] || l.go().hour != rows[k][2]) {
                return k + 1;
            }
        }
        return rows.length > 0 && l.hour != hour ? rows.length : 0;
    }

    int sheet(int sheet, int sort, int n) {
        if (!in(sheet, 0, 3) || !in(sort, -1, 4) || sort >= 0 && n > 40) {
            return BAD;
        }
        if (sort >= 0 && n < 0) {
            return -14;
        }
        sorts[sheet] = sort;
        sheets[sheet] = sort < 0 ? null : new int[n];
        return 1;
    }

    int write(int sheet, int i, int v) {
        if (!in(sheet, 0, 3)) {
            return BAD;
        }
        if (sheets[sheet] == null) {
            return -11;
        }
        if (!in(i, 0, sheets[sheet].length - 1)) {
            return -12;
        }
        sheets[sheet][i] = new int[] {(byte) v, (short) v, v, v, v == 0 ? 0 : 1}[sorts[sheet]];
        return 1;
    }

    int item(int sheet, int sort, int i) {
        if (!in(sheet, 0, 3) || !in(sort, 0, 4)) {
            return BAD;
        }
        if (sheets[sheet] == null) {
            return -11;
        }
        if (sorts[sheet] != sort) {
            return -13;
        }
        return in(i, 0, sheets[sheet].length - 1) ? sheets[sheet][i] : -12;
    }

    private int refusal(int sheet, int n) {
        if (!in(sheet, 0, 3) || !in(n, 0, 20)) {
            return BAD;
        }
        return sheets[sheet] == null ? -11 : sorts[sheet] != 0 ? -13 : 0;
    }

    int goAll(int sheet, int i, int n) {
        if (refusal(sheet, n) < 0) {
            return refusal(sheet, n);
        }
        int count = 0;
        for (long k = i; k < (long) i + n; k++) {
            if (k < 0 || k >= sheets[sheet].length) {
                return -12;
            }
            int act = sheets[sheet][(int) k];
            if (in(act, 0, now.people.size()) && now.noons < 9999) {
                count += now.act(act).sum() == 0 ? 0 : 1;
                now.go();
            }
        }
        return count;
    }

    int wouldBe(int sheet, int i, int n) {
        if (refusal(sheet, n) < 0) {
            return refusal(sheet, n);
        }
        Land l = now.copy();
        int count = 0;
        for (long k = i; k < (long) i + n; k++) {
            if (k < 0 || k >= sheets[sheet].length) {
                return -12;
            }
            int act = sheets[sheet][(int) k];
            if (!in(act, 0, l.people.size())) {
                return STATE;
            }
            count += l.act(act).sum() == 0 ? 0 : 1;
            l.go();
        }
        return 100 * count + l.hour;
    }

    int shelf(int shelf, int what, int n) {
        if (!in(shelf, 0, 3) || !in(what, 0, 2) || what == 0 && !isVoter(n) || what == 1 && !in(n, 0, 3)) {
            return BAD;
        }
        shelves[shelf] = what == 0 ? (Object) n : what == 1 && sheets[n] != null ? new int[] {sorts[n], sheets[n].length} : null;
        return 1;
    }

    int taken(int shelf, int as) {
        if (!in(shelf, 0, 3) || !in(as, 0, 5) && !in(as, 10, 14)) {
            return BAD;
        }
        if (shelves[shelf] instanceof int[] row) {
            return row[0] == as - 10 ? row[1] : -13;
        }
        if (!(shelves[shelf] instanceof Integer p) || !isVoter(p)) {
            return -11;
        }
        return as <= 5 && isA(now.people.get(p).kind, as) ? p : -13;
    }

    private static final class Parted extends Exception {
        private static final long serialVersionUID = 1;
    }

    /** The body of an ACT that a KIND has or takes from above. */
    private int body(int act, int above, int kind, int n, int a, int x) throws Parted {
        int[][] has = {{10, 20, -1, 50, -1, -1}, {11, -1, 30, -1, -1, 60}, {12, -1, -1, -1, 40, 61}, {13, -1, -1, 51, -1, -1}};
        int at = above;
        while (has[act][at] < 0) {
            at = UNDER[at];
        }
        trace.add(has[act][at]);
        int up = UNDER[at];
        switch (has[act][at]) {
            case 10: return x + a;
            case 11: return body(0, kind, kind, n, a, x) - n;
            case 12:
                if (a == n) {
                    throw new Parted();
                }
                return x / (a - n);
            case 13: return body(1, kind, kind, n, a, x) ^ a;
            case 20: return body(0, up, kind, n, a, x) * 2;
            case 30: return body(1, up, kind, n, a, x) ^ n;
            case 40: return body(2, up, kind, n, a, x - 3);
            case 50: return body(0, up, kind, n, a, x) - 1;
            case 51: return body(3, up, kind, n, a, x) + body(2, kind, kind, n, a, a);
            case 60: return 0 - body(1, up, kind, n, a, x);
            default: return body(2, up, kind, n, a, x) - body(0, kind, kind, n, a, n);
        }
    }

    int act(int shelf, int act, int x) {
        trace = new ArrayList<>();
        if (!in(shelf, 0, 3) || !in(act, 0, 3) || !(shelves[shelf] instanceof Integer p) || !isVoter(p)) {
            return 0;
        }
        try {
            int kind = now.people.get(p).kind;
            return body(act, kind, kind, p, now.people.get(p).want, x);
        } catch (Parted e) {
            return -15;
        }
    }

    int trace(int i) {
        return in(i, 0, Math.min(30, trace.size()) - 1) ? trace.get(i) : NONE;
    }

    int many(int what) {
        int[] all = {
            now.people.size(), now.laws.size(), now.noons, now.reports.size(), rows.length, tape.size(), Math.min(30, trace.size())
        };
        return in(what, 0, 6) ? all[what] : BAD;
    }

    int keep() {
        kept = now.copy();
        return 1;
    }

    int again() {
        if (kept == null) {
            return NONE;
        }
        now = kept.copy();
        return now.people.size();
    }
}
