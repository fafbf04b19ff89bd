/** The boundary sentences of section 1: HOURS, VOTERS, THE CLOCK, POWER, NOONS. */
final class LandEdges {
    private static final int BAD = HourByVote.BAD, FULL = HourByVote.FULL, STATE = HourByVote.STATE;
    private static final String PART = "Section 1";

    private LandEdges() {
    }

    static void all() {
        hours();
        voters();
        traits();
        clock();
        noons();
        limit();
        lag();
        kinds();
        vote();
        firstRule();
        lessAndMore();
        debtor();
        shift();
        baker();
        sleeper();
        sum();
        noon();
    }

    private static HourByVote one(int kind, int want, int weight) {
        HourByVote x = new HourByVote();
        x.voter(kind, want, weight, 0);
        return x;
    }

    private static void hours() {
        Edge.of(PART, "HOURS are 0 to 23, round.");
        HourByVote x = one(1, 0, 1);
        x.clock(23);
        Edge.due("an hour ahead of 23: on(1)", x.on(1), 0);
        Edge.due("an hour ahead of 23: noon()", x.noon(), 0);
        x.change(0, 1, 23);
        Edge.due("an hour back from 0: on(1)", x.on(1), 23);
        Edge.due("an hour back from 0: noon()", x.noon(), 23);
        Edge.due("none below 0", x.clock(-1), BAD);
        Edge.due("none above 23", x.clock(24), BAD);
    }

    private static void voters() {
        Edge.of(PART, "VOTERS, 7 at most, numbered as they come");
        HourByVote x = new HourByVote();
        for (int p = 0; p < 7; p++) {
            Edge.due("the next one", x.voter(1, 0, 1, 0), p);
        }
        Edge.due("the eighth", x.voter(1, 0, 1, 0), FULL);
        Edge.due("how many", x.many(0), 7);
    }

    private static void traits() {
        Edge.of(PART, "a KIND, WANT (an HOUR), WEIGHT (1 to 9), PRICE (0 to 99), awake (at first) or ASLEEP.");
        HourByVote x = new HourByVote();
        Edge.due("all the least", x.voter(1, 0, 1, 0), 0);
        Edge.due("all the greatest", x.voter(5, 23, 9, 99), 1);
        int[][] due = {{1, 0, 1, 0, 1}, {5, 23, 9, 99, 1}};
        for (int p = 0; p < 2; p++) {
            for (int what = 0; what <= 4; what++) {
                Edge.due("voterOf(" + p + ", " + what + ")", x.voterOf(p, what), due[p][what]);
            }
        }
        Edge.due("WANT below 0", x.voter(1, -1, 1, 0), BAD);
        Edge.due("WANT above 23", x.voter(1, 24, 1, 0), BAD);
        Edge.due("WEIGHT below 1", x.voter(1, 0, 0, 0), BAD);
        Edge.due("WEIGHT above 9", x.voter(1, 0, 10, 0), BAD);
        Edge.due("PRICE below 0", x.voter(1, 0, 1, -1), BAD);
        Edge.due("PRICE above 99", x.voter(1, 0, 1, 100), BAD);
    }

    private static void clock() {
        Edge.of(PART, "THE CLOCK shows an HOUR (0 at first)");
        HourByVote x = new HourByVote();
        Edge.due("state(0)", x.state(0), 0);
        Edge.due("what it showed: clock(5)", x.clock(5), 0);
    }

    private static void noons() {
        Edge.of(PART, "NOONS are how many there were (9999 at most)");
        HourByVote x = Check.late();
        Edge.due("the most", x.state(1), 9999);
        Edge.due("noon()", x.noon(), STATE);
        Edge.due("lot()", x.lot(), STATE);
        Edge.due("goAll(0, 0, 20)", x.goAll(0, 0, 20), 0);
        Edge.due("no more", x.state(1), 9999);
    }

    private static void limit() {
        Edge.of(PART, "LIMIT is 0 to 99 (0 at first)");
        HourByVote x = new HourByVote();
        Edge.due("at first", x.state(2), 0);
        Edge.due("the greatest", x.limit(99), 0);
        Edge.due("more", x.limit(100), BAD);
        Edge.due("less", x.limit(-1), BAD);
        Edge.due("the least", x.limit(0), 99);
    }

    private static void lag() {
        Edge.of(PART, "LAG: by how many HOURS THE CLOCK was moved ahead by NOONS, less those back, the rest by 24 (0 or more; 0 at first).");
        HourByVote x = one(1, 5, 1);
        Edge.due("at first", x.state(4), 0);
        for (int n = 1; n <= 50; n++) {
            x.clock(0);
            x.noon();
            if (n == 23 || n == 24 || n == 25 || n == 47 || n == 48) {
                Edge.due(n + " ahead", x.state(4), n % 24);
            }
        }
        x.change(0, 1, 19);
        for (int n = 1; n <= 51; n++) {
            x.clock(0);
            x.noon();
            if (n == 1 || n == 2 || n == 3 || n == 26 || n == 27 || n == 51) {
                Edge.due("50 ahead, " + n + " back", x.state(4), (50 - n + 24) % 24);
            }
        }
    }

    private static void kinds() {
        Edge.of(PART, "KINDS: 0 voter; 1 lover, 2 debtor, 4 baker (under voter); 3 shift (under debtor); 5 sleeper (under baker).");
        // sets of KINDS that it may be taken for
        int[] above = {0, 1 | 2, 1 | 4, 1 | 4 | 8, 1 | 16, 1 | 16 | 32};
        HourByVote x = one(1, 0, 1);
        x.shelf(0, 0, 0);
        for (int kind = 1; kind <= 5; kind++) {
            x.remake(0, kind);
            for (int as = 0; as <= 5; as++) {
                Edge.due("KIND " + kind + " taken for " + as, x.taken(0, as), (above[kind] >> as & 1) == 1 ? 0 : -13);
            }
        }
    }

    private static void vote() {
        Edge.of(PART, "VOTE of a VOTER: WANT less the HOUR that is shown, round: 0 if these are the same; 1 if it is 1 to 12, -1 if it is more.");
        for (int want : new int[] {0, 1, 11, 12, 13, 22, 23}) {
            HourByVote x = one(1, want, 1);
            for (int less : new int[] {0, 1, 11, 12, 13, 22, 23}) {
                x.clock((want - less + 24) % 24);
                int due = less == 0 ? 0 : less < 13 ? 1 : -1;
                Edge.due("WANT " + want + " less HOUR is " + less + ": voterOf(0, 5)", x.voterOf(0, 5), due + 1);
                Edge.due("WANT " + want + " less HOUR is " + less + ": sum()", x.sum(), due);
            }
        }
    }

    private static void firstRule() {
        Edge.of(PART, "the first of THE RULES whose KIND is its or above it, and whose condition holds.");
        HourByVote x = one(3, 0, 2);
        x.clock(1);
        Edge.due("no RULES", x.sum(), -6);
        Check.rules(x, "lover more 1; baker more 2; sleeper more 3;");
        Edge.due("no RULE of its KIND", x.sum(), -6);
        Check.rules(x, "shift more 1; debtor more 2; voter more 3;");
        Edge.due("its KIND first", x.sum(), -9);
        Check.rules(x, "debtor more 2; shift more 1; voter more 3;");
        Edge.due("the one above first", x.sum(), -12);
        Check.rules(x, "voter more 3; debtor more 2; shift more 1;");
        Edge.due("the highest first", x.sum(), -15);
        Check.rules(x, "voter if hour = 0 more 3; lover more 9; shift if hour = 1 more 1; debtor more 2;");
        Edge.due("the first whose condition holds", x.sum(), -9);
        Check.rules(x, "lover nil;lover nil;lover nil;lover nil;lover nil;lover nil;lover nil;shift more 7;");
        Edge.due("the eighth", x.sum(), -27);
        Check.rules(x, "voter if 1 < 1 nil; voter if 1 = 2 nil; voter if 1 > 1 nil;");
        Edge.due("none holds", x.sum(), -6);
    }

    private static int power(int kind, int weight, int hour, String rules) {
        HourByVote x = one(kind, 0, weight);
        x.clock(hour);
        Check.rules(x, rules);
        return x.voterOf(0, 6);
    }

    private static void lessAndMore() {
        Edge.of(PART, "by more N: N more; by less N: N less (0 at least); by nil: 0.");
        Edge.due("less by one less", power(1, 5, 0, "voter less 4;"), 1);
        Edge.due("less by all", power(1, 5, 0, "voter less 5;"), 0);
        Edge.due("less by one more", power(1, 5, 0, "voter less 6;"), 0);
        Edge.due("less by 99", power(1, 1, 0, "voter less 99;"), 0);
        Edge.due("less by none", power(1, 5, 0, "voter less 0;"), 5);
        Edge.due("more by none", power(1, 5, 0, "voter more 0;"), 5);
        Edge.due("more by 99", power(1, 9, 0, "voter more 99;"), 108);
        Edge.due("nil", power(1, 9, 0, "voter nil;"), 0);
        Edge.due("0 at least, ahead of the debtor's 2", power(2, 1, 12, "voter less 9;"), 2);
    }

    private static void debtor() {
        Edge.of(PART, "debtor: w, and 2 more if HOUR is 12 or more.");
        int[][] due = {{0, 4}, {11, 4}, {12, 6}, {13, 6}, {23, 6}};
        for (int[] d : due) {
            Edge.due("at " + d[0], power(2, 4, d[0], ""), d[1]);
            Edge.due("a lover at " + d[0], power(1, 4, d[0], ""), 4);
        }
    }

    private static void shift() {
        Edge.of(PART, "shift: 3 times as debtor.");
        int[][] due = {{11, 12}, {12, 18}};
        for (int[] d : due) {
            Edge.due("at " + d[0], power(3, 4, d[0], ""), d[1]);
        }
        Edge.due("nil at 11", power(3, 4, 11, "voter nil;"), 0);
        Edge.due("nil at 12", power(3, 4, 12, "voter nil;"), 6);
        Edge.due("the most", power(3, 9, 23, "voter more 99;"), 330);
    }

    private static void baker() {
        Edge.of(PART, "baker: half of w.");
        int[] due = {0, 1, 1, 2, 2, 3, 3, 4, 4};
        for (int w = 1; w <= 9; w++) {
            Edge.due("of " + w, power(4, w, 0, ""), due[w - 1]);
        }
        Edge.due("of what a RULE made", power(4, 4, 0, "voter more 1;"), 2);
    }

    private static void sleeper() {
        Edge.of(PART, "sleeper: as baker; 0 if HOUR is below 6.");
        int[][] due = {{0, 0}, {5, 0}, {6, 4}, {12, 4}, {23, 4}};
        for (int[] d : due) {
            Edge.due("at " + d[0], power(5, 9, d[0], ""), d[1]);
            Edge.due("a baker at " + d[0], power(4, 9, d[0], ""), 4);
        }
    }

    private static void sum() {
        Edge.of(PART, "SUM: of all who are awake VOTE times POWER, together.");
        HourByVote x = new HourByVote();
        Edge.due("no VOTERS", x.sum(), 0);
        for (int p = 0; p < 7; p++) {
            x.voter(1, 5, 1 + p, 0);
        }
        Edge.due("all seven", x.sum(), 28);
        for (int p = 0; p < 7; p++) {
            x.wakes(p, false);
            Edge.due("who is awake behind " + p, x.sum(), 28 - (p + 1) * (p + 2) / 2);
        }
    }

    private static HourByVote pulling(int sum, int limit) {
        // 12 HOURS ahead it VOTES 1, 13 ahead -1
        HourByVote x = one(1, sum < 0 ? 13 : 12, Math.max(1, Math.min(9, Math.abs(sum))));
        Check.rules(x, sum == 0 ? "voter nil;" : "voter more " + (Math.abs(sum) - x.voterOf(0, 2)) + ";");
        x.limit(limit);
        return x;
    }

    private static void noon() {
        Edge.of(PART, "THE CLOCK is moved an hour ahead if SUM is above LIMIT, back if it is below 0 less LIMIT, else not; NOONS is 1 more.");
        for (int limit : new int[] {0, 1, 2, 50, 99}) {
            for (int by = -1; by <= 1; by += 2) {
                HourByVote x = pulling(by * limit, limit);
                Edge.due("SUM " + by * limit + ", LIMIT " + limit, x.noon(), 0);
                Edge.due("NOONS", x.state(1), 1);
                x = pulling(by * (limit + 1), limit);
                Edge.due("SUM as told", x.sum(), by * (limit + 1));
                Edge.due("SUM " + by * (limit + 1) + ", LIMIT " + limit, x.noon(), by > 0 ? 1 : 23);
                Edge.due("NOONS", x.state(1), 1);
            }
        }
    }
}
