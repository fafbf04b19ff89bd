/** The boundary sentences of promises 49 and 50: republics kept. */
final class KeptEdges {
    private static final int NONE = HourByVote.NONE;

    private KeptEdges() {
    }

    static void all() {
        keep();
        keepAll();
        keepEach();
        keepNotThese();
        again();
        againStays();
        againRefused();
        againLate();
    }

    private static void keep() {
        Edge.of("Promise 49", "is kept: 1.");
        HourByVote x = new HourByVote();
        Edge.due("nobody", x.keep(), 1);
        x.voter(1, 0, 1, 0);
        Edge.due("somebody", x.keep(), 1);
        Edge.due("at once again", x.keep(), 1);
        Edge.due("nothing changed", x.many(0), 1);
    }

    private static void keepAll() {
        Edge.of("Promise 49", "All but THE TAPE, ROWS, SHEETS, SHELVES, THE TRACE is kept: 1.");
        HourByVote x = new HourByVote();
        Twins.full(x);
        HourByVote y = new HourByVote();
        Twins.full(y);
        x.keep();
        y.keep();
        // all that is kept becomes another
        for (int p = 0; p < 7; p++) {
            x.remake(p, 1 + (p + 1) % 5);
            x.change(p, 1, p);
            x.change(p, 2, 9 - p);
            x.change(p, 3, 50 + p);
            x.wakes(p, p == 3);
        }
        x.clock(6);
        x.noon();
        x.clock(20);
        x.noon();
        x.lot();
        x.limit(77);
        x.forget();
        x.report(0, 0);
        x.seed(5);
        Edge.due("how many VOTERS", x.again(), 7);
        Twins.alike("again() behind keep()", x, y);
    }

    private static void keepEach() {
        Edge.of("Promise 49", "All but THE TAPE, ROWS, SHEETS, SHELVES, THE TRACE is kept: 1.");
        HourByVote x = new HourByVote();
        x.voter(2, 9, 3, 8);
        x.wakes(0, false);
        x.keep();
        x.wakes(0, true);
        x.noon();
        x.limit(4);
        x.seed(44);
        x.change(0, 2, 9);
        x.clock(0);
        Edge.due("SUM ahead of again()", x.sum(), 9);
        x.again();
        int[] due = {0, 0, 0, 0, 0};
        for (int what = 0; what <= 4; what++) {
            Edge.due("state(" + what + ")", x.state(what), due[what]);
        }
        Edge.due("z", x.seed(1), 1);
        x.wakes(0, true);
        Edge.due("SUM, at the same HOUR with the same one awake", x.sum(), 3);
        x.report(5, 5);
        x.report(6, 6);
        Check.rules(x, "voter if hour < 1 more 4;");
        x.keep();
        x.forget();
        x.report(5, 6);
        x.report(7, 6);
        Check.rules(x, "voter if hour < 2 less 1;");
        x.again();
        Edge.due("REPORTS", x.many(3), 2);
        Edge.due("LAWS that FIT them", x.span(0) * 1000 + x.span(1) * 100 + x.span(2), 1200);
        Edge.due("RULES", x.sum(), 7);
        x.clock(1);
        Edge.due("their conditions", x.sum(), 3);
    }

    private static void keepNotThese() {
        Edge.of("Promise 49", "All but THE TAPE, ROWS, SHEETS, SHELVES, THE TRACE is kept: 1.");
        HourByVote x = new HourByVote();
        x.voter(3, 12, 9, 0);
        x.keep();
        Check.feed(x, "lover nil;");
        x.prove(3);
        x.sheet(2, 0, 4);
        x.write(2, 3, 7);
        x.shelf(1, 0, 0);
        x.act(1, 0, 1);
        Edge.due("again()", x.again(), 1);
        Edge.due("THE TAPE", x.many(5), 10);
        Edge.due("ROWS", x.many(4), 3);
        Edge.due("SHEETS", x.item(2, 0, 3), 7);
        Edge.due("SHELVES", x.taken(1, 3), 0);
        Edge.due("THE TRACE", x.many(6), 2);
        x.keep();
        Edge.due("THE TAPE, used up", x.rules(), 1);
        x.prove(12);
        x.prove(0);
        x.sheet(2, -1, 0);
        x.shelf(1, 2, 0);
        x.act(1, 0, 1);
        x.again();
        Edge.due("THE TAPE stays used up", x.many(5), 0);
        Edge.due("RULES as kept", x.many(1), 0);
        Edge.due("ROWS", x.many(4), 0);
        Edge.due("SHEETS", x.item(2, 0, 3), -11);
        Edge.due("SHELVES", x.taken(1, 3), -11);
        Edge.due("THE TRACE", x.many(6), 0);
    }

    private static void again() {
        Edge.of("Promise 50", "It becomes what was kept latest (which stays): how many VOTERS.");
        HourByVote x = new HourByVote();
        x.keep();
        x.voter(1, 5, 3, 0);
        x.sum();
        Edge.due("nobody", x.again(), 0);
        Edge.due("nobody is awake", x.state(3), 0);
        Edge.due("SUM", x.sum(), 0);
        for (int p = 0; p < 7; p++) {
            Edge.due("their numbers are free", x.voter(2, 20, 1, 0), p);
        }
        x.keep();
        x.clock(5);
        x.keep();
        x.clock(9);
        Edge.due("seven", x.again(), 7);
        Edge.due("the latest", x.state(0), 5);
    }

    private static void againStays() {
        Edge.of("Promise 50", "(which stays)");
        HourByVote x = new HourByVote();
        x.voter(1, 5, 3, 0);
        Check.rules(x, "lover if hour < 2 more 1;");
        x.report(2, 2);
        x.keep();
        for (int i = 0; i < 5; i++) {
            Edge.due("time and again", x.again(), 1);
            Edge.due("SUM", x.sum(), 4);
            Edge.due("REPORTS", x.many(3), 1);
            Edge.due("z", x.seed(i), 1);
            x.noon();
            x.change(0, 2, 9);
            x.wakes(0, false);
            x.voter(1, 1, 1, 1);
            x.report(i, i);
            Check.rules(x, "voter if hour < 9 or 1 = 1 nil;");
            Edge.due("another SUM", x.sum(), 0);
        }
    }

    private static void againRefused() {
        Edge.of("Promise 50", "NONE: nothing is kept.");
        Twins.same("nothing is kept", x -> x.again(), NONE, Twins::empty);
        HourByVote x = new HourByVote();
        x.voter(1, 5, 3, 0);
        x.clock(7);
        Edge.due("nothing is kept", x.again(), NONE);
        Edge.due("HOUR stays", x.state(0), 7);
        Edge.due("VOTERS stay", x.many(0), 1);
    }

    private static void againLate() {
        Edge.of("Promise 50", "It becomes what was kept latest (which stays): how many VOTERS.");
        HourByVote x = Check.late();
        x.keep();
        x.wakes(0, true);
        Edge.due("one VOTER", x.again(), 1);
        Edge.due("9999 NOONS are kept, too", x.noon(), HourByVote.STATE);
        Edge.due("NOONS", x.many(2), 9999);
        Edge.due("who is awake", x.state(3), 0);
    }
}
