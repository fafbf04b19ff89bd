/** Promises 21 to 25: plans. */
public final class PlansTest {
    private static final int NONE = HourByVote.NONE, BAD = HourByVote.BAD;

    private PlansTest() {
    }

    public static void main(String[] args) {
        refuses();
        nobody();
        oneVoter();
        whoIsAsleep();
        twoVoters();
        takesTheFirst();
        limits();
        limitsOfNoNoons();
        feelsFactsAndKinds();
        all();
        Check.end("PlansTest");
    }

    private static void refuses() {
        HourByVote x = new HourByVote();
        for (int hour : new int[] {-1, 24}) {
            Check.due("21: fewest(" + hour + ")", x.fewest(hour), BAD);
            Check.due("22: ith(" + hour + ", 0)", x.ith(hour, 0), BAD);
            Check.due("23: ways(" + hour + ", 1)", x.ways(hour, 1), BAD);
            Check.due("25: limitFor(" + hour + ", 1)", x.limitFor(hour, 1), BAD);
        }
        Check.due("22: ith(0, 4)", x.ith(0, 4), BAD);
        Check.due("22: ith(0, -1)", x.ith(0, -1), BAD);
        Check.due("23: ways(0, 5)", x.ways(0, 5), BAD);
        Check.due("23: ways(0, -1)", x.ways(0, -1), BAD);
        Check.due("24: hours(5)", x.hours(5), BAD);
        Check.due("24: hours(-1)", x.hours(-1), BAD);
        Check.due("25: limitFor(0, 0)", x.limitFor(0, 0), BAD);
        Check.due("25: limitFor(0, 4)", x.limitFor(0, 4), BAD);
    }

    private static void nobody() {
        HourByVote x = new HourByVote();
        Check.due("21: it is shown", x.fewest(0), 0);
        Check.due("22: no ACT", x.ith(0, 0), NONE);
        Check.due("21: never", x.fewest(1), NONE);
        Check.due("22: no PLAN", x.ith(1, 0), NONE);
        for (int n = 0; n <= 4; n++) {
            Check.due("23: but one PLAN", x.ways(0, n), 1);
            Check.due("23: none", x.ways(1, n), 0);
            Check.due("24: but one HOUR", x.hours(n), 1);
        }
        Check.due("25: any LIMIT", x.limitFor(0, 1), 99);
        Check.due("25: none", x.limitFor(1, 3), NONE);
    }

    private static void oneVoter() {
        // at each NOON it is awake or ASLEEP as one likes: as many PLANS as ways to choose
        int[][] choose = {{1}, {1, 1}, {1, 2, 1}, {1, 3, 3, 1}, {1, 4, 6, 4, 1}};
        HourByVote x = new HourByVote();
        x.voter(1, 9, 3, 0);
        x.clock(22);
        for (int n = 0; n <= 4; n++) {
            int set = 0;
            for (int k = 0; k < 24; k++) {
                int hour = (22 + k) % 24;
                Check.due("23: ways(" + hour + ", " + n + ")", x.ways(hour, n), k <= n ? choose[n][k] : 0);
                set |= k <= n ? 1 << hour : 0;
            }
            Check.due("24: hours(" + n + ")", x.hours(n), set);
        }
        for (int k = 0; k < 24; k++) {
            int hour = (22 + k) % 24;
            Check.due("21: fewest(" + hour + ")", x.fewest(hour), k <= 4 ? k : NONE);
            for (int i = 0; i <= 3; i++) {
                Check.due("22: ith(" + hour + ", " + i + ")", x.ith(hour, i), i < k && k <= 4 ? 0 : NONE);
            }
            for (int n = 1; n <= 3; n++) {
                Check.due("25: limitFor(" + hour + ", " + n + ")", x.limitFor(hour, n), k == 0 ? 99 : k <= n ? 2 : NONE);
            }
        }
        Check.due("9: nothing changed", x.state(0) * 100 + x.state(3), 2201);
        Check.due("9: nothing changed", x.state(1) + x.state(4), 0);
    }

    private static void whoIsAsleep() {
        HourByVote x = new HourByVote();
        x.voter(1, 9, 3, 0);
        x.wakes(0, false);
        Check.due("21: woken first", x.fewest(4), 4);
        int[] plan = {1, 0, 0, 0};
        for (int i = 0; i < 4; i++) {
            Check.due("22: woken first", x.ith(4, i), plan[i]);
        }
        Check.due("23: woken once", x.ways(1, 1), 1);
        Check.due("23: 1 of 2", x.ways(1, 2), 2);
        Check.due("24: hours(3)", x.hours(3), 15);
    }

    private static HourByVote two() {
        HourByVote x = new HourByVote();
        x.voter(1, 5, 3, 0);
        x.voter(1, 20, 2, 0);
        return x;
    }

    private static void twoVoters() {
        HourByVote x = two();
        Check.due("21: ahead", x.fewest(1), 1);
        Check.due("22: FIRST by none", x.ith(1, 0), 0);
        Check.due("21: back", x.fewest(23), 1);
        Check.due("22: back", x.ith(23, 0), 1);
        Check.due("22: no more", x.ith(23, 1), NONE);
        Check.due("21: back by two", x.fewest(22), 2);
        Check.due("22: back by two", x.ith(22, 0), 1);
        Check.due("22: back by two", x.ith(22, 1), 0);
        Check.due("23: ahead by 0 and 2", x.ways(1, 1), 2);
        Check.due("23: back by 1", x.ways(23, 1), 1);
        Check.due("23: not moved by none", x.ways(0, 1), 0);
        // behind 0, 1, 2: (0 is awake, 1 is awake) TT, FT, TF; then 0 not moved again: 01 | 10 and 12? | 21
        Check.due("23: ahead twice", x.ways(2, 2), 4);
        Check.due("23: back twice", x.ways(22, 2), 1);
        Check.due("23: ahead, then back, or back, then ahead", x.ways(0, 2), 2);
        Check.due("23: ahead and not moved", x.ways(1, 2), 1);
        Check.due("23: back and not moved", x.ways(23, 2), 1);
        Check.due("24: all five", x.hours(2), 1 << 22 | 1 << 23 | 7);
    }

    private static void takesTheFirst() {
        HourByVote x = new HourByVote();
        x.voter(1, 5, 1, 0);
        x.voter(1, 5, 1, 0);
        x.voter(1, 19, 2, 0);
        // 2 ahead, 2 back: it goes ahead just without the third, back without the first or the second
        Check.due("22: FIRST of two", x.ith(23, 0), 1);
        Check.due("23: of two", x.ways(23, 1), 2);
        Check.due("22: the third", x.ith(1, 0), 3);
        Check.due("21: it is shown", x.fewest(0), 0);
        // in two NOONS: 1 0 is ahead of 1 2, 2 0, 2 1
        Check.due("22: FIRST of four", x.ith(22, 0), 1);
        Check.due("22: FIRST of four", x.ith(22, 1), 0);
        x.wakes(1, false);
        x.wakes(2, false);
        Check.due("22: none is the least", x.ith(1, 0), 0);
        Check.due("22: the third, woken", x.ith(23, 0), 3);
        x.change(2, 2, 1);
        Check.due("21: 1 and 3, or 3 and 1", x.fewest(23), 2);
        Check.due("23: these alone", x.ways(23, 2), 2);
        Check.due("22: the lesser one first", x.ith(23, 0), 1);
        Check.due("22: the other one then", x.ith(23, 1), 3);
    }

    private static void limits() {
        HourByVote x = two();
        Check.due("25: without 1", x.limitFor(1, 1), 2);
        Check.due("25: without 0", x.limitFor(23, 1), 1);
        Check.due("25: no PLAN of one", x.limitFor(2, 1), NONE);
        Check.due("25: without 1 twice", x.limitFor(2, 2), 2);
        Check.due("25: or fewer", x.limitFor(2, 3), 2);
        Check.due("25: three back", x.limitFor(21, 3), 1);
        x.wakes(1, false);
        x.change(0, 2, 1);
        Check.due("25: 1 is above 0", x.limitFor(1, 1), 0);
        x.wakes(1, true);
        x.change(0, 2, 3);
        x.limit(50);
        Check.due("25: LIMIT itself counts nothing", x.limitFor(21, 3), 1);
        Check.due("9: LIMIT stays", x.state(2), 50);
        Check.due("21: under LIMIT none", x.fewest(1), NONE);
        Check.rules(x, "voter more 99;");
        Check.due("25: 99 at most", x.limitFor(1, 1), 99);
        Check.rules(x, "voter if number = 0 more 95;");
        Check.due("25: 98 is not above 98", x.limitFor(1, 1), 97);
    }

    private static void limitsOfNoNoons() {
        HourByVote x = new HourByVote();
        x.voter(1, 5, 9, 0);
        x.voter(1, 5, 9, 0);
        Check.rules(x, "voter more 99;");
        Check.due("23: it can't stand in one NOON", x.ways(0, 1), 0);
        Check.due("25: but in none", x.limitFor(0, 1), 99);
    }

    private static void feelsFactsAndKinds() {
        HourByVote x = new HourByVote();
        x.voter(2, 20, 1, 0);
        x.voter(1, 1, 2, 0);
        x.clock(11);
        // at 11: 1 ahead, 2 back (1 is 14 ahead); at 12: debtor 3, lover 2 (13 ahead)
        Check.due("21: back", x.fewest(10), 1);
        Check.due("21: ahead", x.fewest(12), 1);
        Check.due("22: without 1", x.ith(12, 0), 2);
        Check.due("21: ahead twice", x.fewest(13), 2);
        Check.due("22: without 1", x.ith(13, 0), 2);
        Check.due("22: at 12 none is needed", x.ith(13, 1), 0);
        Check.due("23: 2 0, 2 2 and no other", x.ways(13, 2), 2);
        Check.rules(x, "lover if awake = 2 more 9;");
        Check.due("23: only 2 0", x.ways(13, 2), 1);
    }

    private static void all() {
        HourByVote x = new HourByVote();
        for (int p = 0; p < 7; p++) {
            x.voter(1 + p % 5, (3 * p + 5) % 24, 1 + p, p);
        }
        x.clock(7);
        int plans = 1;
        for (int n = 0; n <= 4; n++) {
            int together = 0;
            for (int hour = 0; hour < 24; hour++) {
                together += x.ways(hour, n);
                Check.due("24: as ways() say", x.hours(n) >> hour & 1, x.ways(hour, n) > 0 ? 1 : 0);
            }
            Check.due("23: all PLANS of " + n, together, plans);
            plans *= 8;
        }
    }
}
