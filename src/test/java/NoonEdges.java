/** The boundary sentences of promises 12 to 20: noons, whom to lull, who lies, who decides. */
final class NoonEdges {
    private static final int BAD = HourByVote.BAD, NONE = HourByVote.NONE, STATE = HourByVote.STATE;
    private static final String PART = "Section 3";

    private NoonEdges() {
    }

    static void all() {
        sum();
        sumExtremes();
        noon();
        noonRefused();
        on();
        onRefused();
        when();
        whenNone();
        whenRefused();
        round();
        cycle();
        cycleRefused();
        lulledNone();
        lulledAsAsleep();
        lulledBest();
        buys();
        buysRefused();
        whom();
        whomRefused();
        liarsNearer();
        liars();
        power();
        powerAsleep();
        powerFacts();
        powerRefused();
    }

    private static HourByVote lovers(int[]... wantsAndWeights) {
        HourByVote x = new HourByVote();
        for (int[] w : wantsAndWeights) {
            x.voter(1, w[0], w[1], w.length > 2 ? w[2] : 0);
        }
        return x;
    }

    /** Seven that draw it ahead (or back) from HOUR 12 by 330 each. */
    private static HourByVote strongest(int want) {
        HourByVote x = new HourByVote();
        for (int p = 0; p < 7; p++) {
            x.voter(3, want, 9, 99);
        }
        Check.rules(x, "voter more 99;");
        x.clock(12);
        return x;
    }

    private static void sum() {
        Edge.of("Promise 12", "SUM (it may be below 0; it refuses nothing).");
        HourByVote x = new HourByVote();
        Edge.due("nobody", x.sum(), 0);
        // no refusals, though as low as these
        for (int weight = 1; weight <= 4; weight++) {
            Edge.due("a SUM", lovers(new int[] {20, weight}).sum(), -weight);
        }
        Edge.due("a SUM", lovers(new int[] {20, 9}, new int[] {20, 6}).sum(), -15);
        Edge.due("at the last NOON", Check.late().sum(), 0);
    }

    private static void sumExtremes() {
        Edge.of("Promise 12", "SUM (it may be below 0; it refuses nothing).");
        HourByVote x = strongest(0);
        Edge.due("the greatest", x.sum(), 7 * 330);
        Edge.due("ahead in spite of LIMIT 99", x.limit(99) + x.noon(), 13);
        x = strongest(1);
        Edge.due("the least", x.sum(), -7 * 330);
        Edge.due("back in spite of LIMIT 99", x.limit(99) + x.noon(), 11);
    }

    private static void noon() {
        Edge.of("Promise 13", "A NOON: the HOUR behind it.");
        HourByVote x = lovers(new int[] {1, 1});
        x.clock(23);
        int[] due = {0, 1, 1};
        for (int n = 0; n < 3; n++) {
            Edge.due("NOON " + (n + 1), x.noon(), due[n]);
        }
        x.clock(3);
        Edge.due("back", x.noon(), 2);
        Edge.due("NOONS", x.many(2), 4);
        Edge.due("nobody", new HourByVote().noon(), 0);
    }

    private static void noonRefused() {
        Edge.of("Promise 13", "STATE: NOONS is 9999.");
        HourByVote x = new HourByVote();
        x.voter(1, 12, 1, 0);
        x.sheet(0, 0, 20);
        x.wakes(0, false);
        for (int i = 0; i < 499; i++) {
            x.goAll(0, 0, 20);
        }
        x.goAll(0, 0, 18);
        x.wakes(0, true);
        Edge.due("the last one", x.noon(), 1);
        Edge.due("one more", x.noon(), STATE);
        Edge.due("the HOUR stays", x.state(0), 1);
        Edge.due("LAG stays", x.state(4), 1);
        Edge.due("NOONS stay", x.state(1), 9999);
    }

    private static void on() {
        Edge.of("Promise 14", "The HOUR that is shown behind n (0 to 60) NOONS.");
        HourByVote x = lovers(new int[] {3, 1});
        x.clock(22);
        int[][] due = {{0, 22}, {1, 23}, {2, 0}, {5, 3}, {6, 3}, {60, 3}};
        for (int[] d : due) {
            Edge.due("on(" + d[0] + ")", x.on(d[0]), d[1]);
        }
        x.wakes(0, false);
        Edge.due("nobody is awake: on(60)", x.on(60), 22);
    }

    private static void onRefused() {
        Edge.of("Promise 14", "BAD.");
        Twins.off("on(n)", (x, v) -> x.on(v), 0, 60, BAD);
    }

    private static void when() {
        Edge.of("Promise 15", "In how many NOONS (0 to 60) an HOUR is shown first.");
        HourByVote x = lovers(new int[] {11, 9}, new int[] {23, 9});
        Edge.due("RULES by which it goes round", Check.rules(x, "voter if number=0 and not(hour>10 and hour<23) more 0;"
            + "voter if number=1 and hour>10 and hour<23 more 0; voter nil;"), 3);
        for (int from : new int[] {0, 1, 12, 23}) {
            x.clock(from);
            Edge.due("the HOUR that is shown, at " + from, x.when(from), 0);
            Edge.due("the next one, at " + from, x.when((from + 1) % 24), 1);
            Edge.due("the one behind, at " + from, x.when((from + 23) % 24), 23);
        }
    }

    private static void whenNone() {
        Edge.of("Promise 15", "BAD; NONE.");
        HourByVote x = lovers(new int[] {4, 1});
        Edge.due("the last one that is shown", x.when(4), 4);
        Edge.due("one further", x.when(5), NONE);
        Edge.due("the one behind", x.when(23), NONE);
        Twins.same("nobody: when(1)", y -> y.when(1), NONE, Twins::empty);
        Twins.same("nobody: when(23)", y -> y.when(23), NONE, Twins::empty);
    }

    private static void whenRefused() {
        Edge.of("Promise 15", "BAD; NONE.");
        Twins.off("when(hour)", (x, v) -> x.when(v), 0, 23, BAD);
    }

    private static void round() {
        Edge.of(PART, "ROUND: HOURS that are shown again and again, if NOONS go on with all else as it is.");
        HourByVote x = lovers(new int[] {0, 5}, new int[] {23, 1});
        x.clock(20);
        Edge.due("swings over midnight, in how many NOONS", x.cycle(0), 3);
        Edge.due("two HOURS", x.cycle(1), 2);
        x.clock(0);
        Edge.due("in it, at 0", x.cycle(0), 0);
        x.clock(23);
        Edge.due("in it, at 23", x.cycle(0), 0);
        x.clock(1);
        Edge.due("one NOON back", x.cycle(0), 1);
    }

    private static void cycle() {
        Edge.of("Promise 16", "ROUND: what = 0 in how many NOONS it is in it first, 1 how many HOURS it has (1: it stands).");
        HourByVote x = new HourByVote();
        Edge.due("nobody: at once", x.cycle(0), 0);
        Edge.due("nobody: it stands", x.cycle(1), 1);
        x = lovers(new int[] {12, 1});
        Edge.due("12 NOONS ahead", x.cycle(0), 12);
        Edge.due("then it stands", x.cycle(1), 1);
        x.change(0, 1, 13);
        Edge.due("11 NOONS back", x.cycle(0), 11);
        // always ahead, but for the last step
        x = lovers(new int[] {11, 9}, new int[] {23, 9});
        Check.rules(x, "voter if number=0 and not hour>10 more 0; voter if number=1 and hour>10 more 0; voter nil;");
        Edge.due("23 NOONS ahead", x.cycle(0), 23);
        Edge.due("then it stands", x.cycle(1), 1);
        x.clock(23);
        Edge.due("there", x.cycle(0), 0);
        Check.rules(x, "voter if number=0 and not(hour>10 and hour<23) more 0; voter if number=1 and hour>10 and hour<23 more 0; voter nil;");
        Edge.due("round the day, at once", x.cycle(0), 0);
        Edge.due("round the day", x.cycle(1), 24);
    }

    private static void cycleRefused() {
        Edge.of("Promise 16", "BAD.");
        Twins.off("cycle(what)", (x, v) -> x.cycle(v), 0, 1, BAD);
    }

    private static void lulledNone() {
        Edge.of(PART, "LULLED: a set of VOTERS that are awake (also none)");
        HourByVote x = lovers(new int[] {5, 1, 99});
        Edge.due("none, ahead", x.whom(2), 0);
        Edge.due("none, for nothing", x.buys(2), 0);
        x.wakes(0, false);
        Edge.due("none, not moved", x.whom(1), 0);
        Edge.due("who is ASLEEP can't be", x.whom(2), NONE);
        x = lovers(new int[] {5, 1, 1}, new int[] {5, 1, 1}, new int[] {20, 1, 1});
        x.wakes(0, false);
        Edge.due("who is ASLEEP isn't of it", x.whom(0), 2);
    }

    private static void lulledAsAsleep() {
        Edge.of(PART, "as if these were ASLEEP at the next NOON; its PRICE: theirs together");
        HourByVote x = lovers(new int[] {5, 1, 99}, new int[] {5, 1, 98}, new int[] {5, 1, 97});
        Check.rules(x, "voter if awake = 2 nil;");
        Edge.due("how many are awake counts", x.whom(1), 4);
        Edge.due("PRICE of one", x.buys(1), 97);
        Check.rules(x, "");
        Edge.due("all of them", x.whom(1), 7);
        Edge.due("theirs together", x.buys(1), 99 + 98 + 97);
    }

    private static void lulledBest() {
        Edge.of(PART, "the cheapest by which the next NOON goes so, of several one with fewest, then the least.");
        // 4 ahead, 3 back
        HourByVote x = lovers(new int[] {5, 2, 5}, new int[] {5, 2, 5}, new int[] {20, 3, 1});
        Edge.due("as cheap and as few: the least", x.whom(0), 1);
        x.change(0, 3, 6);
        Edge.due("the cheaper one", x.whom(0), 2);
        // 0 and 1 for 4, or 2 alone for 4
        x = lovers(new int[] {5, 1, 2}, new int[] {5, 1, 2}, new int[] {5, 2, 4}, new int[] {20, 3, 0});
        Edge.due("as cheap: fewest", x.whom(0), 4);
        x.change(2, 3, 5);
        Edge.due("cheapest ahead of fewest", x.whom(0), 3);
        // all for nothing: not even one too many
        x = lovers(new int[] {5, 1, 0}, new int[] {5, 1, 0}, new int[] {5, 1, 0});
        Edge.due("for nothing, but fewest", x.whom(2), 0);
        Edge.due("for nothing, not moved", x.whom(1), 7);
        x = lovers(new int[] {5, 1, 0}, new int[] {20, 1, 0}, new int[] {20, 1, 0});
        Edge.due("for nothing, the least of one", x.whom(1), 2);
    }

    private static void buys() {
        Edge.of("Promise 17", "PRICE of the best LULLED set for a TURN (0 to 2).");
        HourByVote x = lovers(new int[] {5, 1, 7}, new int[] {20, 2, 3});
        Edge.due("back", x.buys(0), 0);
        Edge.due("not moved", x.buys(1), 10);
        Edge.due("ahead", x.buys(2), 3);
        Edge.due("the dearest", strongest(0).buys(1), 7 * 99);
    }

    private static void buysRefused() {
        Edge.of("Promise 17", "BAD; NONE.");
        Twins.off("buys(turn)", (x, v) -> x.buys(v), 0, 2, BAD);
        Twins.same("nobody: back", x -> x.buys(0), NONE, Twins::empty);
        Twins.same("nobody: ahead", x -> x.buys(2), NONE, Twins::empty);
        HourByVote x = lovers(new int[] {5, 9, 0});
        Edge.due("none draws back", x.buys(0), NONE);
        x.limit(9);
        Edge.due("none can draw beyond LIMIT", x.buys(2), NONE);
        x.limit(8);
        Edge.due("one can", x.buys(2), 0);
    }

    private static void whom() {
        Edge.of("Promise 18", "That set.");
        HourByVote x = lovers(new int[] {5, 1, 7}, new int[] {20, 2, 3});
        Edge.due("none", x.whom(0), 0);
        Edge.due("both", x.whom(1), 3);
        Edge.due("the second", x.whom(2), 2);
        Edge.due("all seven", strongest(0).whom(1), 127);
    }

    private static void whomRefused() {
        Edge.of("Promise 18", "BAD; NONE.");
        Twins.off("whom(turn)", (x, v) -> x.whom(v), 0, 2, BAD);
        Twins.same("nobody: back", x -> x.whom(0), NONE, Twins::empty);
        Twins.same("nobody: ahead", x -> x.whom(2), NONE, Twins::empty);
    }

    private static void liarsNearer() {
        Edge.of(PART, "nearer to its WANT (round, the shorter way)");
        // who wants 12 HOURS ahead VOTES 1; as another one VOTES -1, it stands: back would be nearer
        HourByVote x = lovers(new int[] {12, 1}, new int[] {20, 1});
        Edge.due("12 away", x.liars(), 1);
        x.change(0, 1, 11);
        Edge.due("11 away: back is further", x.liars(), 0);
        // who wants 0 at 0 is drawn to 23, and further if it VOTES so
        x = lovers(new int[] {0, 1}, new int[] {20, 1});
        Edge.due("over midnight: to stay is nearer", x.liars(), 1);
        x = lovers(new int[] {0, 1}, new int[] {20, 2});
        Edge.due("it can't stay", x.liars(), 0);
        x.clock(23);
        x.change(0, 1, 23);
        x.change(1, 1, 4);
        x.change(1, 2, 1);
        Edge.due("over midnight, ahead", x.liars(), 1);
        Edge.due("nobody", new HourByVote().liars(), 0);
    }

    private static void liars() {
        Edge.of("Promise 19", "LIARS, as a set.");
        // all but one are content, but one draws it away
        HourByVote x = new HourByVote();
        for (int p = 0; p < 6; p++) {
            x.voter(1, 0, 1, 0);
        }
        x.voter(1, 20, 1, 0);
        Edge.due("all but the last", x.liars(), 63);
        x.change(6, 1, 0);
        x.change(0, 1, 4);
        Edge.due("all but the first", x.liars(), 126);
        x.wakes(6, false);
        Edge.due("none who is ASLEEP", x.liars(), 62);
        x.wakes(0, false);
        Edge.due("none", x.liars(), 0);
    }

    private static void power() {
        Edge.of("Promise 20", "Of how many sets of the others who are awake it is so");
        HourByVote x = new HourByVote();
        for (int p = 0; p < 7; p++) {
            x.voter(1, 5, p == 6 ? 9 : 1, 0);
        }
        x.limit(6);
        Edge.due("of all sets but none: 9 and any are above 6, six are not", x.power(6), 64);
        Edge.due("1 with 6 more (never), or 9 with the others (always)", x.power(0), 0);
        x.limit(0);
        Edge.due("only of none", x.power(6), 1);
        for (int p = 0; p < 6; p++) {
            x.wakes(p, false);
        }
        Edge.due("of the one set there is", x.power(6), 1);
        x.clock(5);
        Edge.due("it is content", x.power(6), 0);
        x = lovers(new int[] {5, 1}, new int[] {20, 1});
        Edge.due("none: from standing; the other one: to standing", x.power(0), 2);
        x = lovers(new int[] {5, 1}, new int[] {5, 1}, new int[] {5, 1});
        x.limit(2);
        for (int p = 0; p < 3; p++) {
            Edge.due("of both others alone, " + p, x.power(p), 1);
        }
        x.limit(1);
        for (int p = 0; p < 3; p++) {
            Edge.due("of either other one, " + p, x.power(p), 2);
        }
    }

    private static void powerAsleep() {
        Edge.of("Promise 20", "0: it is ASLEEP.");
        HourByVote x = lovers(new int[] {5, 1}, new int[] {5, 1});
        x.wakes(0, false);
        Edge.due("it is ASLEEP", x.power(0), 0);
        Edge.due("the other one: no set of who is ASLEEP", x.power(1), 1);
    }

    private static void powerFacts() {
        Edge.of("Promise 20", "(FACTS as they are)");
        HourByVote x = lovers(new int[] {5, 1}, new int[] {5, 1}, new int[] {5, 1});
        Check.rules(x, "voter if awake = 3 more 1; voter nil;");
        x.limit(1);
        Edge.due("three are awake, whoever VOTES", x.power(0), 1);
        x.wakes(2, false);
        Edge.due("two are awake", x.power(0), 0);
    }

    private static void powerRefused() {
        Edge.of("Promise 20", "BAD.");
        Twins.off("power(p)", (x, v) -> x.power(v), 0, 6, BAD);
        Twins.same("one more than there are", x -> x.power(3), BAD, Twins::told);
    }
}
