/** The boundary sentences of promises 28 to 34, and what section 3 says of REPORTS, LAWS and LOTS. */
final class LotEdges {
    private static final int BAD = HourByVote.BAD, FULL = HourByVote.FULL, NONE = HourByVote.NONE, STATE = HourByVote.STATE;
    private static final String PART = "Section 3";

    private LotEdges() {
    }

    static void all() {
        sixReports();
        lawsRound();
        leastLiar();
        wraps();
        onlyWhoComes();
        facts();
        report();
        reportRefused();
        forget();
        span();
        spanNone();
        spanRefused();
        liar();
        liarNone();
        seed();
        lot();
        lotRefused();
        often();
        oftenLeaves();
        oftenRefused();
    }

    private static HourByVote reports(int... noonsAndHours) {
        HourByVote x = new HourByVote();
        for (int i = 0; i < noonsAndHours.length; i += 2) {
            x.report(noonsAndHours[i], noonsAndHours[i + 1]);
        }
        return x;
    }

    private static void spans(String name, HourByVote x, int count, int step, int start) {
        Edge.due(name + ": how many", x.span(0), count);
        Edge.due(name + ": STEP and 1", x.span(1), step);
        Edge.due(name + ": START", x.span(2), start);
    }

    private static void sixReports() {
        Edge.of(PART, "A REPORT (6 at most): at NOON 0 to 60 long ago an HOUR was shown.");
        HourByVote x = new HourByVote();
        int[][] six = {{0, 0}, {60, 23}, {0, 23}, {60, 0}, {60, 0}, {0, 0}};
        for (int r = 0; r < 6; r++) {
            Edge.due("REPORT " + r, x.report(six[r][0], six[r][1]), r);
        }
        Edge.due("a seventh", x.report(0, 0), FULL);
        Edge.due("NOON 61", x.report(61, 0), BAD);
        Edge.due("NOON -1", x.report(-1, 0), BAD);
        Edge.due("HOUR 24", x.report(0, 24), BAD);
        Edge.due("HOUR -1", x.report(0, -1), BAD);
    }

    private static void lawsRound() {
        Edge.of(PART, "at NOON n START and n times STEP is shown, round.");
        spans("NOON 0", reports(0, 5), 3, 0, 5);
        // 60 back from 12 is 0; 60 ahead from 12 is 0
        spans("NOON 60 shows 0", reports(60, 0), 3, 0, 12);
        spans("NOON 60 shows 23", reports(60, 23), 3, 0, 11);
        spans("ahead over midnight", reports(0, 23, 1, 0, 2, 1), 1, 2, 23);
        spans("back over midnight", reports(0, 0, 1, 23, 2, 22), 1, 0, 0);
        spans("it stands", reports(0, 0, 1, 0), 1, 1, 0);
        spans("once round in 24 NOONS", reports(0, 7, 24, 7), 3, 0, 7);
        spans("12 ahead are 12 back", reports(0, 7, 12, 19), 2, 0, 7);
        spans("twice round and 12, back", reports(60, 3, 59, 4), 1, 0, 15);
    }

    private static void leastLiar() {
        Edge.of(PART, "LIAR: if none FITS, the least REPORT but for which some would.");
        Edge.due("either of two", reports(0, 0, 0, 1).liar(), 0);
        Edge.due("two ahead is no STEP", reports(0, 0, 1, 2).liar(), 0);
        Edge.due("two back is no STEP", reports(0, 0, 1, 22).liar(), 0);
        Edge.due("two ahead over midnight is no STEP", reports(0, 23, 1, 1).liar(), 0);
        Edge.due("the second of three", reports(0, 0, 0, 1, 0, 0).liar(), 1);
        Edge.due("the third of three", reports(0, 0, 0, 0, 0, 1).liar(), 2);
        Edge.due("the last of six", reports(0, 0, 1, 1, 2, 2, 3, 3, 4, 4, 5, 6).liar(), 5);
        Edge.due("the first of six", reports(5, 6, 0, 0, 1, 1, 2, 2, 3, 3, 4, 4).liar(), 0);
        // without 0 it goes back, without 1 it stands, without 2 it goes ahead
        Edge.due("each of three would do", reports(0, 0, 1, 1, 2, 0).liar(), 0);
    }

    /** z behind a draw, worked out without wrapping ints. */
    private static int drawn(int z) {
        long wide = Math.floorMod(z, 4294967296L) * 1103515245L + 12345;
        return (int) Math.floorMod(wide, 4294967296L);
    }

    private static boolean comes(int z) {
        return Math.floorMod((long) z, 4294967296L) / 65536 % 2 == 1;
    }

    private static void wraps() {
        Edge.of(PART, "z (an int; 1 at first) becomes z * 1103515245 + 12345, and z >>> 16 is odd.");
        HourByVote x = new HourByVote();
        x.voter(1, 12, 1, 0);
        int seen = 0;
        for (int z : new int[] {1, 0, -1, 2, 3, 4, 5, Integer.MAX_VALUE, Integer.MIN_VALUE, Integer.MIN_VALUE + 1, 65536, -65536, 77, -78}) {
            x.clock(0);
            x.seed(z);
            int behind = drawn(z);
            seen |= 1 << (comes(behind) ? 2 : 0) + (behind < 0 ? 1 : 0);
            Edge.due("from " + z + ": often(1, 1)", x.often(1, 1), comes(behind) ? 1 : 0);
            Edge.due("from " + z + ": lot()", x.lot(), comes(behind) ? 1 : 0);
            Edge.due("from " + z + ": z", x.seed(1), behind);
        }
        Edge.due("z above and below 0, it comes or not: all were seen", seen, 15);
        Edge.due("1 at first", new HourByVote().seed(1), 1);
    }

    private static void onlyWhoComes() {
        Edge.of(PART, "at which of those awake, by numbers, each comes if its draw says so");
        // some draw it ahead, some back, so that each draw counts
        int[] wants = {9, 20, 9, 20, 9, 20, 9};
        int[] weights = {1, 2, 4, 8, 9, 3, 5};
        HourByVote x = new HourByVote();
        for (int p = 0; p < 7; p++) {
            x.voter(1, wants[p], weights[p], 0);
        }
        x.wakes(4, false);
        int z = 5;
        x.seed(z);
        for (int i = 0; i < 40; i++) {
            x.clock(0);
            int sum = 0;
            for (int p = 0; p < 7; p++) {
                if (p != 4) {
                    z = drawn(z);
                    sum += comes(z) ? wants[p] == 9 ? weights[p] : -weights[p] : 0;
                }
            }
            Edge.due("NOON " + i + " with " + sum, x.lot(), (24 + Integer.signum(sum)) % 24);
        }
        Edge.due("who is ASLEEP draws nothing", x.seed(1), z);
        Edge.due("who doesn't come stays awake", x.state(3), 127 - 16);
    }

    private static void facts() {
        Edge.of(PART, "Only who comes VOTES (all else, FACTS too, as if all awake had come).");
        HourByVote x = new HourByVote();
        x.voter(1, 9, 1, 0);
        x.voter(1, 9, 1, 0);
        Check.rules(x, "voter if awake = 2 nil;");
        for (int i = 0; i < 20; i++) {
            Edge.due("two are awake, whoever comes", x.lot(), 0);
        }
    }

    private static void report() {
        Edge.of("Promise 28", "A REPORT: its number.");
        HourByVote x = new HourByVote();
        for (int r = 0; r < 6; r++) {
            Edge.due("REPORT " + r, x.report(60, 23), r);
        }
        x.forget();
        Edge.due("the first again", x.report(0, 0), 0);
        Edge.due("many(3)", x.many(3), 1);
    }

    private static void reportRefused() {
        Edge.of("Promise 28", "BAD; FULL.");
        Twins.off("report(noon, 0)", (x, v) -> x.report(v, 0), 0, 60, BAD);
        Twins.off("report(0, shown)", (x, v) -> x.report(0, v), 0, 23, BAD);
        Twins.same("a seventh", x -> x.report(0, 0), FULL, Twins::full);
        Twins.same("a seventh", x -> x.report(60, 23), FULL, Twins::full);
    }

    private static void forget() {
        Edge.of("Promise 29", "There are no REPORTS: how many there were.");
        HourByVote x = new HourByVote();
        Edge.due("none", x.forget(), 0);
        for (int r = 0; r < 6; r++) {
            x.report(0, r);
        }
        Edge.due("six", x.forget(), 6);
        Edge.due("many(3)", x.many(3), 0);
        Edge.due("all LAWS fit again", x.span(0), 72);
        Edge.due("none again", x.forget(), 0);
    }

    private static void span() {
        Edge.of("Promise 30", "LAWS that FIT: what = 0 how many; of that with the least STEP, of these the least START: 1 STEP and 1, 2 START.");
        spans("no REPORTS", new HourByVote(), 72, 0, 0);
        spans("two ahead is no STEP", reports(0, 0, 1, 2), 0, NONE, NONE);
        spans("two back is no STEP", reports(0, 23, 1, 21), 0, NONE, NONE);
        spans("STEP 1, START 23 alone", reports(0, 23, 1, 0), 1, 2, 23);
        spans("STEP 0, START 23 alone", reports(0, 23, 1, 23), 1, 1, 23);
        spans("STEP -1, START 23 alone", reports(0, 23, 1, 22), 1, 0, 23);
        spans("the same REPORT twice", reports(1, 0, 1, 0), 3, 0, 1);
    }

    private static void spanNone() {
        Edge.of("Promise 30", "NONE (of 1, 2): there are none.");
        HourByVote x = reports(0, 0, 0, 1);
        Edge.due("none, how many", x.span(0), 0);
        Edge.due("none, STEP", x.span(1), NONE);
        Edge.due("none, START", x.span(2), NONE);
    }

    private static void spanRefused() {
        Edge.of("Promise 30", "BAD; NONE (of 1, 2): there are none.");
        Twins.off("span(what)", (x, v) -> x.span(v), 0, 2, BAD);
    }

    private static void liar() {
        Edge.of("Promise 31", "LIAR.");
        Edge.due("0", reports(0, 1, 0, 2).liar(), 0);
        Edge.due("5", reports(0, 9, 10, 9, 20, 9, 30, 9, 40, 9, 60, 10).liar(), 5);
        Edge.due("at NOON 60, round", reports(60, 0, 0, 12, 1, 13, 2, 14, 3, 16).liar(), 4);
    }

    private static void liarNone() {
        Edge.of("Promise 31", "NONE: some FIT; or there is no such REPORT.");
        Twins.same("no REPORT", x -> x.liar(), NONE, Twins::empty);
        Edge.due("one REPORT", reports(60, 23).liar(), NONE);
        Edge.due("six that fit", reports(0, 0, 1, 1, 2, 2, 3, 3, 4, 4, 5, 5).liar(), NONE);
        Edge.due("only STEP -1, START 0 fits", reports(0, 0, 1, 23).liar(), NONE);
        Edge.due("only STEP 1, START 23 fits", reports(0, 23, 1, 0).liar(), NONE);
        Edge.due("two are wrong", reports(0, 0, 0, 0, 0, 1, 0, 1).liar(), NONE);
        Edge.due("all of six are unlike", reports(0, 0, 0, 1, 0, 2, 0, 3, 0, 4, 0, 5).liar(), NONE);
    }

    private static void seed() {
        Edge.of("Promise 32", "z becomes v: what it was.");
        HourByVote x = new HourByVote();
        Edge.due("at first", x.seed(0), 1);
        Edge.due("0", x.seed(Integer.MIN_VALUE), 0);
        Edge.due("the least int", x.seed(Integer.MAX_VALUE), Integer.MIN_VALUE);
        Edge.due("the greatest int", x.seed(-3), Integer.MAX_VALUE);
        Edge.due("as low as a refusal", x.seed(1), -3);
    }

    private static void lot() {
        Edge.of("Promise 33", "A NOON by LOT: the HOUR behind it.");
        HourByVote x = new HourByVote();
        Edge.due("nobody", x.lot(), 0);
        Edge.due("no draw", x.seed(1), 1);
        Edge.due("a NOON", x.state(1), 1);
        x.voter(1, 12, 1, 0);
        x.wakes(0, false);
        Edge.due("nobody is awake", x.lot(), 0);
        Edge.due("no draw", x.seed(1), 1);
        x.wakes(0, true);
        x.clock(23);
        x.change(0, 1, 0);
        int moved = 0;
        for (int i = 0; i < 20 && moved == 0; i++) {
            moved = x.lot() == 0 ? 1 : 0;
        }
        Edge.due("ahead over midnight, if it comes", moved, 1);
        Edge.due("LAG", x.state(4), 1);
        x.change(0, 1, 23);
        for (int i = 0; i < 20 && moved == 1; i++) {
            moved = x.lot() == 23 ? 2 : 1;
        }
        Edge.due("back over midnight, if it comes", moved, 2);
        Edge.due("LAG", x.state(4), 0);
    }

    private static void lotRefused() {
        Edge.of("Promise 33", "STATE: NOONS is 9999.");
        HourByVote x = Check.late();
        x.wakes(0, true);
        Edge.due("lot()", x.lot(), STATE);
        Edge.due("z stays", x.seed(1), 1);
        Edge.due("HOUR stays", x.state(0), 0);
        Edge.due("LAG stays", x.state(4), 0);
        Edge.due("NOONS stay", x.state(1), 9999);
    }

    private static void often() {
        Edge.of("Promise 34", "At how many of n (1 to 60) NOONS by LOT, each from how it is now (z goes on from one to the next)");
        HourByVote x = new HourByVote();
        Edge.due("nobody: one", x.often(1, 0), 1);
        Edge.due("nobody: 60", x.often(60, 0), 60);
        Edge.due("nobody: another HOUR", x.often(60, 1), 0);
        x.voter(1, 0, 1, 0);
        x.clock(23);
        x.seed(9);
        int z = 9;
        int came = 0;
        for (int n = 1; n <= 60; n++) {
            z = drawn(z);
            came += comes(z) ? 1 : 0;
            if (n == 1 || n == 2 || n == 59 || n == 60) {
                Edge.due("over midnight: often(" + n + ", 0)", x.often(n, 0), came);
                Edge.due("it stands: often(" + n + ", 23)", x.often(n, 23), n - came);
                Edge.due("never two NOONS on: often(" + n + ", 1)", x.often(n, 1), 0);
            }
        }
    }

    private static void oftenLeaves() {
        Edge.of("Promise 34", "(all is as it was in the end, z, too)");
        Twins.asks("often(1, 0)", x -> x.often(1, 0), Twins::empty, Twins::told, Twins::full);
        Twins.asks("often(60, 9)", x -> x.often(60, 9), Twins::empty, Twins::told, Twins::full);
    }

    private static void oftenRefused() {
        Edge.of("Promise 34", "BAD.");
        Twins.off("often(n, 0)", (x, v) -> x.often(v, 0), 1, 60, BAD);
        Twins.off("often(1, hour)", (x, v) -> x.often(1, v), 0, 23, BAD);
    }
}
