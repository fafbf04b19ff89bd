/** Promises 49 and 50: republics kept. */
public final class KeptTest {
    private KeptTest() {
    }

    public static void main(String[] args) {
        keepsNothingAtFirst();
        bringsAllBack();
        leavesTheRest();
        keepsTheLatest();
        Check.end("KeptTest");
    }

    private static void keepsNothingAtFirst() {
        HourByVote x = new HourByVote();
        x.voter(1, 5, 3, 9);
        Check.due("50: nothing is kept", x.again(), HourByVote.NONE);
        Check.due("50: nothing changed", x.many(0), 1);
    }

    private static HourByVote full() {
        HourByVote x = new HourByVote();
        x.voter(1, 5, 3, 9);
        x.voter(2, 15, 4, 8);
        x.wakes(1, false);
        Check.rules(x, "lover if hour < 3 or number = 7 more 2; debtor nil;");
        x.noon();
        x.clock(22);
        x.limit(3);
        x.report(3, 4);
        x.report(5, 6);
        x.seed(33);
        return x;
    }

    private static void due(HourByVote x) {
        int[][] voters = {{1, 5, 3, 9, 1, 2, 3}, {2, 15, 4, 8, 0, 0, 2}};
        for (int p = 0; p < 2; p++) {
            for (int what = 0; what < 7; what++) {
                Check.due("50: voterOf(" + p + ", " + what + ")", x.voterOf(p, what), voters[p][what]);
            }
        }
        int[] states = {22, 1, 3, 1, 1};
        for (int what = 0; what < 5; what++) {
            Check.due("50: state(" + what + ")", x.state(what), states[what]);
        }
        Check.due("50: RULES", x.many(1), 2);
        Check.due("50: REPORTS", x.many(3), 2);
        Check.due("50: LAWS", x.span(0) * 100 + x.span(2), 101);
        Check.due("50: z", x.seed(33), 33);
        Check.due("50: SUM", x.sum(), 3);
        x.clock(0);
        Check.due("50: a RULE that holds", x.sum(), 5);
        x.clock(22);
    }

    private static void spoil(HourByVote x) {
        x.noon();
        x.clock(1);
        x.limit(0);
        x.change(0, 1, 9);
        x.change(0, 2, 9);
        x.change(0, 3, 77);
        x.remake(0, 5);
        x.wakes(0, false);
        x.wakes(1, true);
        x.voter(4, 1, 1, 1);
        Check.rules(x, "voter if hour > 0 or want = 99 more 50; voter more 1; baker more 3;");
        x.forget();
        x.report(0, 9);
        x.lot();
        x.seed(12);
    }

    private static void bringsAllBack() {
        HourByVote x = full();
        Check.due("49: keep()", x.keep(), 1);
        due(x);
        spoil(x);
        Check.due("50: how many VOTERS", x.again(), 2);
        due(x);
        spoil(x);
        x.sum();
        Check.due("50: it stays", x.again(), 2);
        due(x);
        Check.due("50: at once again", x.again(), 2);
        due(x);
        x.change(0, 2, 9);
        Check.due("12: SUM of what was changed", x.sum(), 9);
        x.limit(0);
        x.noon();
        x.noon();
        Check.due("9: LAG", x.state(4), 3);
        x.again();
        due(x);
        Check.due("2: the next one", x.voter(4, 22, 2, 1), 2);
        Check.due("12: SUM", x.sum(), 3);
    }

    private static void leavesTheRest() {
        HourByVote x = full();
        x.prove(22);
        x.keep();
        x.feed(0x6c, 1);
        x.limit(0);
        x.prove(23);
        x.sheet(1, 2, 3);
        x.write(1, 0, 55);
        x.shelf(2, 0, 1);
        x.act(2, 1, 4);
        Check.due("50: again()", x.again(), 2);
        Check.due("50: THE TAPE stays", x.many(5), 1);
        Check.due("50: ROWS stay", x.many(4), 1);
        Check.due("50: ROWS stay", x.row(0, 2), 23);
        Check.due("50: SHEETS stay", x.item(1, 2, 0), 55);
        Check.due("50: SHELVES stay", x.taken(2, 2), 1);
        Check.due("50: THE TRACE stays", x.trace(0) * 10 + x.many(6), 303);
    }

    private static void keepsTheLatest() {
        HourByVote x = full();
        x.keep();
        spoil(x);
        x.clock(13);
        x.keep();
        x.clock(2);
        x.voter(1, 1, 1, 1);
        Check.due("50: the latest", x.again(), 3);
        Check.due("50: the latest", x.state(0), 13);
        HourByVote empty = new HourByVote();
        empty.keep();
        empty.voter(1, 1, 1, 1);
        Check.due("50: a new object, kept", empty.again(), 0);
        Check.due("50: no SUM", empty.sum(), 0);
    }
}
