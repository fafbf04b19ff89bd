/** Promises 35 to 38: rows of plans, and who reads them. */
public final class RowsTest {
    private static final int NONE = HourByVote.NONE, BAD = HourByVote.BAD;

    private RowsTest() {
    }

    public static void main(String[] args) {
        proves();
        alters();
        judges();
        judgesFromNow();
        judgesNoRows();
        Check.end("RowsTest");
    }

    private static HourByVote two() {
        HourByVote x = new HourByVote();
        x.voter(1, 5, 3, 0);
        x.voter(1, 20, 2, 0);
        return x;
    }

    private static void rows(HourByVote x, int[][] rows) {
        for (int k = 0; k < rows.length; k++) {
            for (int what = 0; what < 3; what++) {
                Check.due("36: row(" + k + ", " + what + ")", x.row(k, what), rows[k][what]);
            }
        }
        Check.due("36: no more", x.row(rows.length, 0), -9);
        Check.due("48: many(4)", x.many(4), rows.length);
    }

    private static void proves() {
        HourByVote x = two();
        Check.due("35: prove(24)", x.prove(24), BAD);
        Check.due("35: prove(-1)", x.prove(-1), BAD);
        rows(x, new int[0][]);
        Check.due("35: two back", x.prove(22), 2);
        rows(x, new int[][] {{1, -2, 23}, {0, -2, 22}});
        Check.due("35: four ahead", x.prove(4), 4);
        rows(x, new int[][] {{0, 1, 1}, {0, 1, 2}, {0, 1, 3}, {0, 1, 4}});
        Check.due("35: none", x.prove(5), NONE);
        rows(x, new int[][] {{0, 1, 1}, {0, 1, 2}, {0, 1, 3}, {0, 1, 4}});
        Check.due("35: BAD", x.prove(99), BAD);
        Check.due("48: ROWS stay", x.many(4), 4);
        Check.due("36: row(-1, 0)", x.row(-1, 0), -9);
        Check.due("36: row(4, 0)", x.row(4, 0), -9);
        Check.due("36: row(0, 3)", x.row(0, 3), -9);
        Check.due("36: row(0, -1)", x.row(0, -1), -9);
        Check.due("35: it is shown", x.prove(0), 0);
        rows(x, new int[0][]);
        Check.due("9: nothing else changed", x.state(0) * 100 + x.state(1) * 10 + x.state(3), 3);
    }

    private static void alters() {
        HourByVote x = two();
        Check.due("37: no ROW", x.alterRow(0, 0, 0), 0);
        x.prove(22);
        Check.due("37: the same", x.alterRow(0, 0, 1), 1);
        Check.due("37: another", x.alterRow(0, 0, Integer.MIN_VALUE), 2);
        Check.due("37: SUM", x.alterRow(1, 1, 77), 2);
        Check.due("37: HOUR", x.alterRow(1, 2, -5), 2);
        rows(x, new int[][] {{Integer.MIN_VALUE, -2, 23}, {0, 77, -5}});
        Check.due("37: the same now", x.alterRow(1, 2, -5), 1);
        for (int[] none : new int[][] {{-1, 0}, {2, 0}, {0, -1}, {0, 3}}) {
            Check.due("37: alterRow(" + none[0] + ", " + none[1] + ", 1)", x.alterRow(none[0], none[1], 1), 0);
        }
    }

    private static void judges() {
        HourByVote x = two();
        x.prove(21);
        Check.due("38: all is right", x.judge(21), 0);
        Check.due("38: another HOUR in the end", x.judge(22), 3);
        Check.due("38: judge(24)", x.judge(24), BAD);
        Check.due("38: judge(-1)", x.judge(-1), BAD);
        int[][] rows = {{1, -2, 23}, {0, -2, 22}, {0, -2, 21}};
        for (int k = 0; k < 3; k++) {
            for (int what = 0; what < 3; what++) {
                x.alterRow(k, what, rows[k][what] + 24);
                Check.due("38: altered " + k + ", " + what, x.judge(21), k + 1);
                x.alterRow(k, what, rows[k][what]);
            }
        }
        Check.due("38: right again", x.judge(21), 0);
        x.alterRow(1, 0, -1);
        Check.due("38: no ACT", x.judge(21), 2);
        x.alterRow(1, 0, 3);
        Check.due("38: no ACT", x.judge(21), 2);
        x.alterRow(0, 0, 2);
        Check.due("38: an ACT, but another SUM", x.judge(21), 1);
        // another PLAN that is right, too
        x.prove(1);
        x.alterRow(0, 0, 2);
        x.alterRow(0, 1, 3);
        Check.due("38: another one that is right", x.judge(1), 0);
        Check.due("38: not for another HOUR", x.judge(0), 1);
        Check.due("36: ROWS stay", x.row(0, 0) * 10 + x.row(0, 1), 23);
    }

    private static void judgesFromNow() {
        HourByVote x = two();
        x.prove(2);
        x.noon();
        Check.due("38: from how it is now", x.judge(2), 1);
        x.clock(0);
        Check.due("38: right again, with more NOONS", x.judge(2), 0);
        x.wakes(1, false);
        Check.due("38: another SUM", x.judge(2), 1);
        x.alterRow(0, 0, 2);
        Check.due("38: woken by the first ACT", x.judge(2), 0);
        x.limit(1);
        Check.due("38: under LIMIT", x.judge(2), 1);
    }

    private static void judgesNoRows() {
        HourByVote x = two();
        for (int hour = 0; hour < 24; hour++) {
            Check.due("38: no ROW is wrong", x.judge(hour), 0);
        }
    }
}
