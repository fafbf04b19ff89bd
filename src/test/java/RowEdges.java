/** The boundary sentences of promises 35 to 38, and what section 3 says of ROWS and THE READER. */
final class RowEdges {
    private static final int BAD = HourByVote.BAD, NONE = HourByVote.NONE;
    private static final int NO_ROW = -9;
    private static final String PART = "Section 3";

    private RowEdges() {
    }

    static void all() {
        fourRows();
        isAnAct();
        asTheyAreThen();
        lastRow();
        prove();
        proveRefused();
        row();
        rowAsLow();
        rowRefused();
        alterRow();
        alterRowRefused();
        judge();
        judgeRefused();
    }

    private static HourByVote lover(int want, int weight, int clock) {
        HourByVote x = new HourByVote();
        x.voter(1, want, weight, 0);
        x.clock(clock);
        return x;
    }

    private static void rows(HourByVote x, int[]... due) {
        for (int k = 0; k < due.length; k++) {
            for (int what = 0; what <= 2; what++) {
                Edge.due("row(" + k + ", " + what + ")", x.row(k, what), due[k][what]);
            }
        }
        Edge.due("no more: row(" + due.length + ", 0)", x.row(due.length, 0), NO_ROW);
        Edge.due("many(4)", x.many(4), due.length);
    }

    private static void fourRows() {
        Edge.of(PART, "ROWS of the FIRST of the PLANS with fewest NOONS by which a told HOUR is shown in the end (4 at most): "
            + "for each NOON (ACT, SUM, the HOUR behind it).");
        HourByVote x = lover(9, 2, 22);
        Edge.due("five NOONS", x.prove(3), NONE);
        rows(x);
        Edge.due("four NOONS over midnight", x.prove(2), 4);
        rows(x, new int[] {0, 2, 23}, new int[] {0, 2, 0}, new int[] {0, 2, 1}, new int[] {0, 2, 2});
        x = lover(15, 2, 2);
        x.wakes(0, false);
        Edge.due("back over midnight, woken first", x.prove(22), 4);
        rows(x, new int[] {1, -2, 1}, new int[] {0, -2, 0}, new int[] {0, -2, 23}, new int[] {0, -2, 22});
    }

    private static void isAnAct() {
        Edge.of(PART, "right is one whose ACT is one");
        HourByVote x = new HourByVote();
        for (int p = 0; p < 7; p++) {
            x.voter(1, 0, 1, 0);
        }
        x.change(6, 1, 5);
        x.wakes(6, false);
        x.prove(1);
        Edge.due("7 is one with seven VOTERS", x.judge(1), 0);
        for (int act : new int[] {8, -1, Integer.MAX_VALUE, Integer.MIN_VALUE, 39, 32}) {
            x.alterRow(0, 0, act);
            Edge.due(act + " is none", x.judge(1), 1);
        }
        HourByVote none = new HourByVote();
        none.keep();
        none.voter(1, 1, 1, 0);
        none.prove(1);
        none.alterRow(0, 0, 1);
        none.again();
        Edge.due("1 is none without VOTERS", none.judge(1), 1);
        none.alterRow(0, 0, 0);
        none.alterRow(0, 1, 0);
        none.alterRow(0, 2, 0);
        Edge.due("0 is one without VOTERS", none.judge(0), 0);
    }

    private static void asTheyAreThen() {
        Edge.of(PART, "the others as they are then");
        HourByVote x = lover(9, 2, 22);
        x.prove(1);
        Edge.due("three right ROWS", x.judge(1), 0);
        int[][] due = {{0, 2, 23}, {0, 2, 0}, {0, 2, 1}};
        for (int k = 0; k < 3; k++) {
            for (int what = 1; what <= 2; what++) {
                for (int by : new int[] {-1, 1, 24}) {
                    x.alterRow(k, what, due[k][what] + by);
                    Edge.due("ROW " + k + ", " + what + ", off by " + by, x.judge(1), k + 1);
                }
                x.alterRow(k, what, due[k][what]);
            }
        }
        Edge.due("all right again", x.judge(1), 0);
        x.alterRow(2, 1, 9);
        x.alterRow(1, 1, 9);
        Edge.due("the first of two that aren't", x.judge(1), 2);
    }

    private static void lastRow() {
        Edge.of(PART, "behind the last one that HOUR is shown (else that ROW isn't right).");
        HourByVote x = lover(9, 2, 22);
        x.prove(2);
        Edge.due("the HOUR of the last one", x.judge(2), 0);
        Edge.due("the HOUR of the one ahead of it", x.judge(1), 4);
        Edge.due("the HOUR that is shown now", x.judge(22), 4);
        x.prove(23);
        Edge.due("one ROW, its HOUR", x.judge(23), 0);
        Edge.due("one ROW, another HOUR", x.judge(22), 1);
    }

    private static void prove() {
        Edge.of("Promise 35", "ROWS of the FIRST PLAN with fewest NOONS for an HOUR: how many.");
        HourByVote x = lover(9, 2, 22);
        int[] hours = {22, 23, 0, 1, 2};
        for (int n = 4; n >= 0; n--) {
            Edge.due("prove(" + hours[n] + ")", x.prove(hours[n]), n);
            Edge.due("many(4)", x.many(4), n);
            Edge.due("none beyond", x.row(n, 0), NO_ROW);
        }
    }

    private static void proveRefused() {
        Edge.of("Promise 35", "BAD; NONE: there is none (ROWS stay).");
        Twins.off("prove(hour)", (x, v) -> x.prove(v), 0, 23, BAD);
        Twins.same("nobody", x -> x.prove(1), NONE, Twins::empty);
        HourByVote x = lover(9, 2, 22);
        x.prove(0);
        Edge.due("five NOONS", x.prove(3), NONE);
        Edge.due("BAD", x.prove(24), BAD);
        rows(x, new int[] {0, 2, 23}, new int[] {0, 2, 0});
    }

    private static void row() {
        Edge.of("Promise 36", "Of ROW k: what = 0 ACT, 1 SUM, 2 HOUR.");
        HourByVote x = lover(23, 3, 2);
        x.wakes(0, false);
        x.prove(0);
        rows(x, new int[] {1, -3, 1}, new int[] {0, -3, 0});
    }

    private static void rowAsLow() {
        Edge.of("Promise 36", "-9: there is none such, another what (SUM may be as low).");
        HourByVote x = lover(23, 9, 2);
        x.prove(1);
        Edge.due("a SUM", x.row(0, 1), -9);
        Edge.due("there is such a ROW", x.many(4), 1);
    }

    private static void rowRefused() {
        Edge.of("Promise 36", "-9: there is none such, another what (SUM may be as low).");
        Twins.off("row(k, 0)", (x, v) -> x.row(v, 0), 0, 3, NO_ROW);
        Twins.off("row(0, what)", (x, v) -> x.row(0, v), 0, 2, NO_ROW);
        HourByVote x = lover(9, 2, 22);
        Edge.due("no ROWS", x.row(0, 0), NO_ROW);
        x.prove(2);
        x.prove(23);
        Edge.due("the second of one, though there were four", x.row(1, 1), NO_ROW);
    }

    private static void alterRow() {
        Edge.of("Promise 37", "It becomes v: 2 it was another, 1 it was the same, 0 there is none such, another what.");
        HourByVote x = lover(9, 2, 22);
        x.prove(2);
        for (int k : new int[] {0, 3}) {
            for (int what = 0; what <= 2; what++) {
                Edge.due("the least int", x.alterRow(k, what, Integer.MIN_VALUE), 2);
                Edge.due("the same", x.alterRow(k, what, Integer.MIN_VALUE), 1);
                Edge.due("the greatest int", x.alterRow(k, what, Integer.MAX_VALUE), 2);
                Edge.due("it is so", x.row(k, what), Integer.MAX_VALUE);
            }
        }
        Edge.due("the others stay", x.row(1, 1), 2);
        Edge.due("prove() tells them anew", x.prove(23), 1);
        Edge.due("as it is", x.row(0, 1), 2);
    }

    private static void alterRowRefused() {
        Edge.of("Promise 37", "0 there is none such, another what.");
        Twins.off("alterRow(k, 0, 5)", (x, v) -> x.alterRow(v, 0, 5), 0, 3, 0);
        Twins.off("alterRow(0, what, 5)", (x, v) -> x.alterRow(0, v, 5), 0, 2, 0);
        Twins.same("no ROWS", x -> x.alterRow(0, 0, 0), 0, Twins::empty);
        HourByVote x = lover(9, 2, 22);
        x.prove(2);
        x.prove(23);
        Edge.due("the second of one", x.alterRow(1, 1, 7), 0);
        x.prove(0);
        Edge.due("nothing became so", x.row(1, 1), 2);
    }

    private static void judge() {
        Edge.of("Promise 38", "0 all is right; else the first ROW that isn't, and 1 more.");
        HourByVote x = lover(9, 2, 22);
        for (int hour : new int[] {0, 22, 23}) {
            Edge.due("no ROWS: judge(" + hour + ")", x.judge(hour), 0);
        }
        x.prove(2);
        Edge.due("all", x.judge(2), 0);
        for (int k = 3; k >= 0; k--) {
            x.alterRow(k, 1, 0);
            Edge.due("ROW " + k + " isn't", x.judge(2), k + 1);
        }
        x.prove(2);
        x.clock(21);
        Edge.due("from how it is now", x.judge(2), 1);
        x.clock(22);
        x.limit(2);
        Edge.due("LIMIT as it is now", x.judge(2), 1);
    }

    private static void judgeRefused() {
        Edge.of("Promise 38", "BAD.");
        Twins.off("judge(hour)", (x, v) -> x.judge(v), 0, 23, BAD);
    }
}
