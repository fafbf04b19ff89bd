/** The boundary sentences of promises 1 to 9: a new object, voters, the clock. */
final class VoterEdges {
    private static final int BAD = HourByVote.BAD, FULL = HourByVote.FULL, NONE = HourByVote.NONE;

    private VoterEdges() {
    }

    static void all() {
        newObject();
        voter();
        voterRefused();
        voterOf();
        voterOfAsleep();
        voterOfRefused();
        change();
        changeRefused();
        remake();
        remakeRefused();
        wakes();
        wakesRefused();
        clock();
        clockRefused();
        limit();
        limitRefused();
        state();
        stateRefused();
    }

    private static void newObject() {
        Edge.of("Promise 1", "No VOTERS, RULES, REPORTS; nothing is kept.");
        HourByVote x = new HourByVote();
        Edge.due("VOTERS", x.many(0), 0);
        Edge.due("no VOTER 0", x.voterOf(0, 0), BAD);
        Edge.due("nobody is awake", x.state(3), 0);
        Edge.due("RULES", x.many(1), 0);
        Edge.due("REPORTS", x.many(3), 0);
        Edge.due("there were none: forget()", x.forget(), 0);
        Edge.due("nothing is kept: again()", x.again(), NONE);
        // the others at once are as new
        HourByVote other = new HourByVote();
        other.voter(1, 0, 1, 0);
        other.keep();
        Edge.due("another object has what it has: many(0)", x.many(0), 0);
        Edge.due("another object keeps what it keeps: again()", x.again(), NONE);
    }

    private static void voter() {
        Edge.of("Promise 2", "A VOTER of a KIND 1 to 5: its number.");
        HourByVote x = new HourByVote();
        for (int p = 0; p < 7; p++) {
            Edge.due("KIND " + (1 + p % 5), x.voter(1 + p % 5, 23 * (p % 2), 1 + 8 * (p % 2), 99 * (p % 2)), p);
            Edge.due("its KIND", x.voterOf(p, 0), 1 + p % 5);
            Edge.due("it is awake", x.voterOf(p, 4), 1);
        }
    }

    private static void voterRefused() {
        Edge.of("Promise 2", "BAD; FULL.");
        Twins.off("voter(kind, 0, 1, 0)", (x, v) -> x.voter(v, 0, 1, 0), 1, 5, BAD);
        Twins.off("voter(1, want, 1, 0)", (x, v) -> x.voter(1, v, 1, 0), 0, 23, BAD);
        Twins.off("voter(1, 0, weight, 0)", (x, v) -> x.voter(1, 0, v, 0), 1, 9, BAD);
        Twins.off("voter(1, 0, 1, price)", (x, v) -> x.voter(1, 0, 1, v), 0, 99, BAD);
        Twins.same("an eighth: voter(1, 0, 1, 0)", x -> x.voter(1, 0, 1, 0), FULL, Twins::full);
        Twins.same("an eighth: voter(5, 23, 9, 99)", x -> x.voter(5, 23, 9, 99), FULL, Twins::full);
    }

    private static void voterOf() {
        Edge.of("Promise 3", "Of a VOTER: what = 0 KIND, 1 WANT, 2 WEIGHT, 3 PRICE, 4 1 if awake, else 0, 5 its VOTE and 1, 6 POWER");
        HourByVote x = new HourByVote();
        for (int p = 0; p < 6; p++) {
            x.voter(1, 0, 1, 0);
        }
        x.voter(3, 23, 9, 99);
        x.clock(12);
        int[] due = {3, 23, 9, 99, 1, 2, 33};
        for (int what = 0; what <= 6; what++) {
            Edge.due("of the last one, " + what, x.voterOf(6, what), due[what]);
        }
        x.clock(23);
        Edge.due("VOTE 0", x.voterOf(6, 5), 1);
        x.clock(0);
        Edge.due("VOTE -1", x.voterOf(6, 5), 0);
    }

    private static void voterOfAsleep() {
        Edge.of("Promise 3", "(5, 6: ASLEEP or not)");
        HourByVote x = new HourByVote();
        x.voter(2, 13, 4, 0);
        x.clock(12);
        x.wakes(0, false);
        Edge.due("ASLEEP", x.voterOf(0, 4), 0);
        Edge.due("its VOTE", x.voterOf(0, 5), 2);
        Edge.due("its POWER", x.voterOf(0, 6), 6);
    }

    private static void voterOfRefused() {
        Edge.of("Promise 3", "BAD.");
        Twins.off("voterOf(p, 0)", (x, v) -> x.voterOf(v, 0), 0, 6, BAD);
        Twins.off("voterOf(0, what)", (x, v) -> x.voterOf(0, v), 0, 6, BAD);
        Twins.same("one more than there are", x -> x.voterOf(3, 0), BAD, Twins::told);
        Twins.same("none is there", x -> x.voterOf(0, 0), BAD, Twins::empty);
    }

    private static void change() {
        Edge.of("Promise 4", "WANT (what 1), WEIGHT (2), PRICE (3) of a VOTER becomes v: what it was.");
        HourByVote x = new HourByVote();
        x.voter(1, 5, 5, 5);
        int[][] ends = {{0, 23}, {1, 9}, {0, 99}};
        for (int what = 1; what <= 3; what++) {
            Edge.due("the least of " + what, x.change(0, what, ends[what - 1][0]), 5);
            Edge.due("the greatest of " + what, x.change(0, what, ends[what - 1][1]), ends[what - 1][0]);
            Edge.due("the same of " + what, x.change(0, what, ends[what - 1][1]), ends[what - 1][1]);
            Edge.due("it is so", x.voterOf(0, what), ends[what - 1][1]);
        }
    }

    private static void changeRefused() {
        Edge.of("Promise 4", "BAD.");
        Twins.off("change(p, 1, 5)", (x, v) -> x.change(v, 1, 5), 0, 6, BAD);
        Twins.off("change(0, what, 1)", (x, v) -> x.change(0, v, 1), 1, 3, BAD);
        Twins.off("change(0, 1, v)", (x, v) -> x.change(0, 1, v), 0, 23, BAD);
        Twins.off("change(0, 2, v)", (x, v) -> x.change(0, 2, v), 1, 9, BAD);
        Twins.off("change(0, 3, v)", (x, v) -> x.change(0, 3, v), 0, 99, BAD);
        Twins.same("one more than there are", x -> x.change(3, 1, 5), BAD, Twins::told);
    }

    private static void remake() {
        Edge.of("Promise 5", "A VOTER becomes one of another KIND (1 to 5): the KIND that it was.");
        HourByVote x = new HourByVote();
        x.voter(1, 0, 9, 0);
        x.clock(12);
        int was = 1;
        int[] powers = {9, 11, 33, 4, 4};
        for (int kind : new int[] {5, 1, 2, 3, 4, 5}) {
            Edge.due("to " + kind, x.remake(0, kind), was);
            Edge.due("it is so", x.voterOf(0, 0), kind);
            Edge.due("SUM", x.sum(), powers[kind - 1]);
            was = kind;
        }
        Edge.due("WEIGHT stays", x.voterOf(0, 2), 9);
    }

    private static void remakeRefused() {
        Edge.of("Promise 5", "BAD.");
        Twins.off("remake(p, 1)", (x, v) -> x.remake(v, 1), 0, 6, BAD);
        Twins.off("remake(0, kind)", (x, v) -> x.remake(0, v), 1, 5, BAD);
        Twins.same("one more than there are", x -> x.remake(3, 1), BAD, Twins::told);
    }

    private static void wakes() {
        Edge.of("Promise 6", "A VOTER is awake, or ASLEEP: 1 if it was awake, else 0.");
        HourByVote x = new HourByVote();
        for (int p = 0; p < 7; p++) {
            x.voter(1, 0, 1, 0);
        }
        for (int p : new int[] {0, 6}) {
            Edge.due("woken, though awake", x.wakes(p, true), 1);
            Edge.due("who is awake", x.state(3), 127);
            Edge.due("put to sleep", x.wakes(p, false), 1);
            Edge.due("put to sleep, though ASLEEP", x.wakes(p, false), 0);
            Edge.due("who is awake", x.state(3), 127 - (1 << p));
            Edge.due("woken", x.wakes(p, true), 0);
            Edge.due("who is awake", x.state(3), 127);
        }
    }

    private static void wakesRefused() {
        Edge.of("Promise 6", "BAD.");
        Twins.off("wakes(p, true)", (x, v) -> x.wakes(v, true), 0, 6, BAD);
        Twins.off("wakes(p, false)", (x, v) -> x.wakes(v, false), 0, 6, BAD);
        Twins.same("one more than there are", x -> x.wakes(3, true), BAD, Twins::told);
        // a shift by 32 would be a shift by 0
        Twins.same("wakes(32, false)", x -> x.wakes(32, false), BAD, Twins::full);
    }

    private static void clock() {
        Edge.of("Promise 7", "THE CLOCK shows HOUR v (LAG stays): what it showed.");
        HourByVote x = new HourByVote();
        x.voter(1, 20, 1, 0);
        x.noon();
        Edge.due("the least", x.clock(0), 23);
        Edge.due("LAG stays", x.state(4), 23);
        Edge.due("the greatest", x.clock(23), 0);
        Edge.due("the same", x.clock(23), 23);
        Edge.due("LAG stays", x.state(4), 23);
        Edge.due("NOONS stay", x.state(1), 1);
    }

    private static void clockRefused() {
        Edge.of("Promise 7", "BAD.");
        Twins.off("clock(v)", (x, v) -> x.clock(v), 0, 23, BAD);
    }

    private static void limit() {
        Edge.of("Promise 8", "LIMIT becomes v: what it was.");
        HourByVote x = new HourByVote();
        Edge.due("the greatest", x.limit(99), 0);
        Edge.due("the same", x.limit(99), 99);
        Edge.due("the least", x.limit(0), 99);
        Edge.due("it is so", x.state(2), 0);
    }

    private static void limitRefused() {
        Edge.of("Promise 8", "BAD.");
        Twins.off("limit(v)", (x, v) -> x.limit(v), 0, 99, BAD);
    }

    private static void state() {
        Edge.of("Promise 9", "What = 0 the HOUR that is shown, 1 NOONS, 2 LIMIT, 3 who is awake, as a set, 4 LAG.");
        HourByVote x = new HourByVote();
        for (int p = 0; p < 7; p++) {
            x.voter(1, 12, 9, 0);
        }
        x.clock(5);
        x.limit(7);
        x.noon();
        x.noon();
        x.clock(23);
        x.wakes(0, false);
        x.wakes(5, false);
        int[] due = {23, 2, 7, 0x5e, 2};
        for (int what = 0; what <= 4; what++) {
            Edge.due("state(" + what + ")", x.state(what), due[what]);
        }
    }

    private static void stateRefused() {
        Edge.of("Promise 9", "BAD.");
        Twins.off("state(what)", (x, v) -> x.state(v), 0, 4, BAD);
    }
}
