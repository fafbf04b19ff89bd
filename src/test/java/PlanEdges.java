/** The boundary sentences of promises 21 to 27, and what section 3 says of PLANS and GAMES. */
final class PlanEdges {
    private static final int BAD = HourByVote.BAD, NONE = HourByVote.NONE;
    private static final String PART = "Section 3";

    private PlanEdges() {
    }

    static void all() {
        acts();
        stays();
        first();
        fewest();
        fewestRefused();
        ith();
        ithRefused();
        ways();
        waysRefused();
        hours();
        hoursRefused();
        limitFor();
        limitForFewer();
        limitForRefused();
        gameAlsoNone();
        gameTurns();
        game();
        gameRefused();
        play();
        playRefused();
    }

    private static HourByVote lovers(int[]... wantsAndWeights) {
        HourByVote x = new HourByVote();
        for (int[] w : wantsAndWeights) {
            x.voter(1, w[0], w[1], 0);
        }
        return x;
    }

    /** At HOUR 0 it goes ahead as it is, back without the first one. */
    private static HourByVote two() {
        return lovers(new int[] {5, 3}, new int[] {20, 2});
    }

    private static void acts() {
        Edge.of(PART, "ahead of each an ACT: 0 none, or 1 more than the number of a VOTER");
        HourByVote x = new HourByVote();
        Edge.due("nobody: one PLAN of four NOONS", x.ways(0, 4), 1);
        int plans = 1;
        for (int p = 0; p < 7; p++) {
            x.voter(1, 0, 1, 0);
            plans = (p + 2) * (p + 2) * (p + 2) * (p + 2);
            Edge.due("all stay: PLANS of four NOONS with " + (p + 1) + " VOTERS", x.ways(0, 4), plans);
        }
        Edge.due("PLANS of one NOON", x.ways(0, 1), 8);
        // the last one alone can draw it, and must be woken
        x.change(6, 1, 5);
        x.wakes(6, false);
        Edge.due("7 is the last one's", x.ith(1, 0), 7);
        Edge.due("7 alone", x.ways(1, 1), 1);
    }

    private static void stays() {
        Edge.of(PART, "that one is put to sleep if it is awake, woken if it is ASLEEP (it stays so).");
        HourByVote x = lovers(new int[] {9, 1});
        x.wakes(0, false);
        Edge.due("woken once: four ahead", x.fewest(4), 4);
        Edge.due("woken", x.ith(4, 0), 1);
        Edge.due("and then let be", x.ith(4, 1) + x.ith(4, 2) + x.ith(4, 3), 0);
        // 0 0: none; 0 1, 1 1: one; 1 0: two
        Edge.due("never woken", x.ways(0, 2), 1);
        Edge.due("woken, or woken and put to sleep", x.ways(1, 2), 2);
        Edge.due("woken first", x.ways(2, 2), 1);
    }

    private static void first() {
        Edge.of(PART, "the FIRST is that with the lesser ACT where they are unlike first.");
        HourByVote x = lovers(new int[] {5, 1}, new int[] {5, 1}, new int[] {20, 2});
        // SUM is 0: it goes ahead if the third one sleeps, back if the first or the second does
        Edge.due("of 1 and 2", x.ith(23, 0), 1);
        Edge.due("of 1 and 2 twice, the first ACT", x.ith(22, 0), 1);
        Edge.due("of 1 0, 1 2, 2 0, 2 1, the second ACT", x.ith(22, 1), 0);
        x = two();
        Edge.due("of 0 and 2", x.ith(1, 0), 0);
        // both who draw it back must sleep: back by one NOON, then twice ahead
        x = lovers(new int[] {5, 1}, new int[] {20, 3}, new int[] {20, 3});
        Edge.due("three NOONS", x.fewest(1), 3);
        Edge.due("2 3 0 ahead of 3 2 0", x.ith(1, 0) * 100 + x.ith(1, 1) * 10 + x.ith(1, 2), 230);
    }

    private static void fewest() {
        Edge.of("Promise 21", "How few NOONS a PLAN has by which an HOUR is shown in the end (0 to 4).");
        HourByVote x = lovers(new int[] {9, 1});
        x.clock(22);
        int[] ahead = {22, 23, 0, 1, 2};
        for (int n = 0; n <= 4; n++) {
            Edge.due("over midnight, " + n, x.fewest(ahead[n]), n);
        }
        Edge.due("nobody, the HOUR that is shown", new HourByVote().fewest(0), 0);
        x = lovers(new int[] {15, 1});
        Edge.due("back over midnight", x.fewest(20), 4);
    }

    private static void fewestRefused() {
        Edge.of("Promise 21", "BAD; NONE: more.");
        Twins.off("fewest(hour)", (x, v) -> x.fewest(v), 0, 23, BAD);
        Twins.same("nobody", x -> x.fewest(1), NONE, Twins::empty);
        HourByVote x = lovers(new int[] {9, 1});
        Edge.due("four", x.fewest(4), 4);
        Edge.due("five", x.fewest(5), NONE);
        Edge.due("never", x.fewest(23), NONE);
    }

    private static void ith() {
        Edge.of("Promise 22", "The i-th (0 to 3) ACT of the FIRST of these.");
        HourByVote x = lovers(new int[] {9, 1});
        x.wakes(0, false);
        int[] due = {1, 0, 0, 0};
        for (int i = 0; i <= 3; i++) {
            Edge.due("ith(4, " + i + ")", x.ith(4, i), due[i]);
        }
    }

    private static void ithRefused() {
        Edge.of("Promise 22", "BAD; NONE: there is none, or it has not so many.");
        Twins.off("ith(hour, 0)", (x, v) -> x.ith(v, 0), 0, 23, BAD);
        Twins.off("ith(0, i)", (x, v) -> x.ith(0, v), 0, 3, BAD);
        Twins.same("there is none", x -> x.ith(1, 0), NONE, Twins::empty);
        Twins.same("it has no NOON", x -> x.ith(0, 0), NONE, Twins::empty);
        HourByVote x = lovers(new int[] {9, 1});
        for (int n = 1; n <= 3; n++) {
            Edge.due("the last of " + n, x.ith(n, n - 1), 0);
            Edge.due("one more than " + n, x.ith(n, n), NONE);
        }
        Edge.due("five NOONS are too many", x.ith(5, 0), NONE);
    }

    private static void ways() {
        Edge.of("Promise 23", "How many PLANS of n (0 to 4) NOONS there are by which an HOUR is shown in the end.");
        HourByVote x = lovers(new int[] {9, 1});
        Edge.due("of none", x.ways(0, 0), 1);
        Edge.due("of none to another HOUR", x.ways(1, 0), 0);
        Edge.due("of four, all ahead", x.ways(4, 4), 1);
        Edge.due("of four, not as far", x.ways(2, 4), 6);
        Edge.due("of four, further", x.ways(5, 4), 0);
        for (int p = 1; p < 7; p++) {
            x.voter(1, 9, 1, 0);
        }
        // one VOTER at least is awake all along
        Edge.due("the most there are: 8 times 8 times 8 times 8", x.ways(4, 4), 4096);
    }

    private static void waysRefused() {
        Edge.of("Promise 23", "BAD.");
        Twins.off("ways(hour, 1)", (x, v) -> x.ways(v, 1), 0, 23, BAD);
        Twins.off("ways(0, n)", (x, v) -> x.ways(0, v), 0, 4, BAD);
    }

    private static void hours() {
        Edge.of("Promise 24", "HOURS that are shown in the end by PLANS of n (0 to 4) NOONS, as a set.");
        HourByVote x = two();
        Edge.due("of none", x.hours(0), 1);
        Edge.due("of one", x.hours(1), 1 << 23 | 1 << 1);
        Edge.due("of four, over midnight", x.hours(4), 0xf0001f);
        x.clock(23);
        Edge.due("of none, at 23", x.hours(0), 1 << 23);
        Edge.due("nobody", new HourByVote().hours(4), 1);
    }

    private static void hoursRefused() {
        Edge.of("Promise 24", "BAD.");
        Twins.off("hours(n)", (x, v) -> x.hours(v), 0, 4, BAD);
    }

    private static void limitFor() {
        Edge.of("Promise 25", "The greatest LIMIT (0 to 99) with which an HOUR is shown in the end");
        HourByVote x = lovers(new int[] {9, 1});
        Edge.due("0 is the greatest", x.limitFor(1, 1), 0);
        Check.rules(x, "voter more 98;");
        Edge.due("SUM 99 is not above 99", x.limitFor(1, 1), 98);
        Check.rules(x, "voter more 99;");
        Edge.due("SUM 100 is above 99", x.limitFor(1, 1), 99);
        x.limit(50);
        Edge.due("whatever LIMIT is", x.limitFor(1, 1), 99);
        Edge.due("LIMIT stays", x.state(2), 50);
        Check.rules(x, "voter nil;");
        Edge.due("SUM 0 is not above 0", x.limitFor(1, 1), NONE);
        x.change(0, 1, 20);
        Check.rules(x, "voter more 6;");
        Edge.due("back: -7 is below -6", x.limitFor(23, 1), 6);
    }

    private static void limitForFewer() {
        Edge.of("Promise 25", "by a PLAN of n (1 to 3) NOONS or fewer.");
        HourByVote x = two();
        Edge.due("the HOUR that is shown, by none", x.limitFor(0, 1), 99);
        // 5 and 20 are drawn against one another: without 1 it is 3 ahead, without 0 2 back
        Edge.due("by one", x.limitFor(1, 1), 2);
        Edge.due("not by one", x.limitFor(2, 1), NONE);
        Edge.due("by two", x.limitFor(2, 2), 2);
        Edge.due("by three or fewer", x.limitFor(2, 3), 2);
        Edge.due("by three", x.limitFor(3, 3), 2);
        Edge.due("not by three", x.limitFor(4, 3), NONE);
        x = lovers(new int[] {9, 9}, new int[] {9, 9});
        Check.rules(x, "voter more 99;");
        Edge.due("no NOON lets it stand, but there is a PLAN of none", x.limitFor(0, 1), 99);
        Edge.due("by one, where two are told", x.limitFor(1, 2), 99);
    }

    private static void limitForRefused() {
        Edge.of("Promise 25", "BAD; NONE.");
        Twins.off("limitFor(hour, 1)", (x, v) -> x.limitFor(v, 1), 0, 23, BAD);
        Twins.off("limitFor(0, n)", (x, v) -> x.limitFor(0, v), 1, 3, BAD);
        Twins.same("nobody", x -> x.limitFor(1, 3), NONE, Twins::empty);
        Twins.same("nobody", x -> x.limitFor(23, 1), NONE, Twins::empty);
    }

    private static void gameAlsoNone() {
        Edge.of(PART, "GAME of n: two in turn, ahead of n NOONS each an ACT (also 0)");
        HourByVote x = lovers(new int[] {9, 1});
        Edge.due("who wants it ahead lets it be", x.play(1), 0);
        Edge.due("and it goes ahead", x.game(1), 11);
        Edge.due("the other one puts it to sleep, and no NOON more", x.game(2), 11);
        Edge.due("nobody: none is the only one", new HourByVote().play(4), 0);
        Edge.due("nobody: it stands", new HourByVote().game(4), 10);
    }

    private static void gameTurns() {
        Edge.of(PART, "(turns ahead less turns back)");
        int[][] due = {{9, 11, 11, 12, 12}, {20, 10, 9, 9, 8}};
        for (int clock : new int[] {0, 5, 21, 22, 23}) {
            for (int[] d : due) {
                HourByVote x = lovers(new int[] {(d[0] + clock) % 24, 1});
                x.clock(clock);
                for (int n = 1; n <= 4; n++) {
                    Edge.due("WANT " + (d[0] + clock) % 24 + " at " + clock + ": game(" + n + ")", x.game(n), d[n]);
                }
            }
        }
    }

    private static void game() {
        Edge.of("Promise 26", "VALUE of a GAME of n (1 to 4), and 10.");
        HourByVote x = lovers(new int[] {9, 9}, new int[] {9, 9}, new int[] {9, 9});
        for (int n = 1; n <= 4; n++) {
            Edge.due("all ahead, " + n, x.game(n), 10 + n);
        }
        x = lovers(new int[] {15, 9}, new int[] {15, 9}, new int[] {15, 9});
        for (int n = 1; n <= 4; n++) {
            Edge.due("all back, " + n, x.game(n), 10 - n);
        }
        x.limit(99);
        Edge.due("it stands", x.game(4), 10);
    }

    private static void gameRefused() {
        Edge.of("Promise 26", "BAD.");
        Twins.off("game(n)", (x, v) -> x.game(v), 1, 4, BAD);
    }

    private static void play() {
        Edge.of("Promise 27", "The least ACT by which who begins comes to it.");
        HourByVote x = new HourByVote();
        for (int p = 0; p < 6; p++) {
            x.voter(1, 0, 1, 0);
        }
        x.voter(1, 20, 1, 0);
        Edge.due("7, the last one's", x.play(1), 7);
        x.change(5, 1, 20);
        x.change(6, 1, 9);
        Edge.due("6 alone makes it go ahead", x.play(1), 6);
        x.change(4, 1, 20);
        x.change(3, 1, 9);
        Edge.due("the least of 5 and 6", x.play(1), 5);
        x.limit(9);
        Edge.due("all the same: none", x.play(1), 0);
        // 2 ahead, 2 back: if it is let be, the other one puts 0 to sleep, and it goes back; so 1 must sleep first
        x = lovers(new int[] {9, 2}, new int[] {20, 1}, new int[] {20, 1});
        Edge.due("as well as they can: game(2)", x.game(2), 10);
        Edge.due("as well as they can: play(2)", x.play(2), 2);
    }

    private static void playRefused() {
        Edge.of("Promise 27", "BAD.");
        Twins.off("play(n)", (x, v) -> x.play(v), 1, 4, BAD);
    }
}
