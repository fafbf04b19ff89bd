/** Promises 12 to 16: SUM, a NOON, what is shown by and by, where it stands or goes round. */
public final class NoonsTest {
    private NoonsTest() {
    }

    public static void main(String[] args) {
        sums();
        noons();
        lagsRound();
        showsByAndBy();
        stands();
        swings();
        goesRoundTheDay();
        endsAt9999();
        Check.end("NoonsTest");
    }

    private static void sums() {
        HourByVote x = new HourByVote();
        Check.due("12: nobody", x.sum(), 0);
        x.voter(1, 12, 9, 0);
        Check.due("12: 12 ahead", x.sum(), 9);
        x.voter(1, 13, 2, 0);
        Check.due("12: 13 ahead", x.sum(), 7);
        x.voter(1, 0, 9, 0);
        Check.due("12: here", x.sum(), 7);
        x.voter(3, 23, 9, 0);
        Check.due("12: below 0", x.sum(), -20);
        x.clock(13);
        Check.due("12: at 13", x.sum(), -9 + 9 + 33);
        x.wakes(3, false);
        Check.due("12: without who is ASLEEP", x.sum(), 0);
    }

    private static void noons() {
        HourByVote x = new HourByVote();
        Check.due("13: nobody", x.noon(), 0);
        x.voter(1, 22, 4, 0);
        Check.due("13: back", x.noon(), 23);
        Check.due("13: back", x.noon(), 22);
        Check.due("13: there", x.noon(), 22);
        Check.due("13: NOONS", x.state(1), 4);
        Check.due("13: LAG", x.state(4), 22);
        x.clock(20);
        x.limit(4);
        Check.due("13: not above LIMIT", x.noon(), 20);
        x.limit(3);
        Check.due("13: above LIMIT", x.noon(), 21);
        x.clock(0);
        Check.due("13: below 0 less LIMIT", x.noon(), 23);
        x.limit(4);
        Check.due("13: not below 0 less LIMIT", x.noon(), 23);
        Check.due("13: LAG", x.state(4), 22);
        Check.due("13: many(2)", x.many(2), 8);
    }

    private static void lagsRound() {
        HourByVote x = new HourByVote();
        x.voter(1, 0, 1, 0);
        for (int i = 1; i <= 30; i++) {
            x.clock(i % 24);
            x.change(0, 1, (i + 1) % 24);
            Check.due("13: ahead", x.noon(), (i + 1) % 24);
            Check.due("9: LAG", x.state(4), i % 24);
        }
    }

    private static void showsByAndBy() {
        HourByVote x = new HourByVote();
        x.voter(1, 5, 1, 0);
        x.clock(22);
        for (int n = 0; n <= 60; n++) {
            Check.due("14: on(" + n + ")", x.on(n), n < 7 ? (22 + n) % 24 : 5);
        }
        Check.due("14: on(61)", x.on(61), HourByVote.BAD);
        Check.due("14: on(-1)", x.on(-1), HourByVote.BAD);
        for (int hour = 0; hour < 24; hour++) {
            int n = (hour - 22 + 24) % 24;
            Check.due("15: when(" + hour + ")", x.when(hour), n <= 7 ? n : HourByVote.NONE);
        }
        Check.due("15: when(24)", x.when(24), HourByVote.BAD);
        Check.due("15: when(-1)", x.when(-1), HourByVote.BAD);
        Check.due("16: stands in seven NOONS", x.cycle(0), 7);
        Check.due("16: at one HOUR", x.cycle(1), 1);
        Check.due("16: cycle(2)", x.cycle(2), HourByVote.BAD);
        Check.due("16: cycle(-1)", x.cycle(-1), HourByVote.BAD);
        Check.due("14: nothing changed", x.state(0), 22);
        Check.due("14: nothing changed", x.state(1), 0);
    }

    private static void stands() {
        HourByVote x = new HourByVote();
        x.voter(1, 5, 3, 0);
        x.limit(3);
        Check.due("16: it stands at once", x.cycle(0), 0);
        Check.due("16: one HOUR", x.cycle(1), 1);
        Check.due("15: when(5)", x.when(5), HourByVote.NONE);
        Check.due("15: when(0)", x.when(0), 0);
    }

    private static void swings() {
        HourByVote x = new HourByVote();
        // at 3 the first one draws it ahead, at 4 the second one draws it back
        x.voter(1, 4, 5, 0);
        x.voter(1, 3, 1, 0);
        Check.due("16: swings from 3 on", x.cycle(0), 3);
        Check.due("16: two HOURS", x.cycle(1), 2);
        Check.due("14: on(3)", x.on(3), 3);
        Check.due("14: on(4)", x.on(4), 4);
        Check.due("14: on(5)", x.on(5), 3);
        Check.due("14: on(60)", x.on(60), 4);
        x.clock(4);
        Check.due("16: in it at once", x.cycle(0), 0);
        Check.due("16: two HOURS", x.cycle(1), 2);
    }

    private static void goesRoundTheDay() {
        HourByVote x = new HourByVote();
        // always one is drawn ahead by a WANT that is less than 12 HOURS ahead
        x.voter(1, 11, 9, 0);
        x.voter(1, 23, 9, 0);
        Check.rules(x, "voter if number = 0 and (hour < 11 or hour = 23) more 0; voter if number = 1 and hour > 10 and hour < 23 more 0; voter nil;");
        Check.due("16: all HOURS go round", x.cycle(1), 24);
        Check.due("16: from the first", x.cycle(0), 0);
        Check.due("15: round to the last", x.when(23), 23);
        Check.due("14: twice round and 12", x.on(60), 12);
        x.clock(5);
        Check.due("15: round to the one behind", x.when(4), 23);
        Check.due("16: all HOURS go round", x.cycle(1), 24);
        Check.due("16: from any", x.cycle(0), 0);
        Check.due("13: really", x.noon(), 6);
    }

    private static void endsAt9999() {
        HourByVote x = new HourByVote();
        x.voter(1, 12, 1, 0);
        x.wakes(0, false);
        x.sheet(0, 0, 20);
        for (int i = 0; i < 499; i++) {
            x.goAll(0, 0, 20);
        }
        x.goAll(0, 0, 18);
        Check.due("13: 9998 NOONS", x.many(2), 9998);
        Check.due("13: the last NOON", x.noon(), 0);
        Check.due("13: NOONS", x.many(2), 9999);
        Check.due("13: STATE", x.noon(), HourByVote.STATE);
        x.wakes(0, true);
        Check.due("33: STATE", x.lot(), HourByVote.STATE);
        Check.due("33: z stays", x.seed(1), 1);
        Check.due("42: left out", x.goAll(0, 0, 2), 0);
        Check.due("42: NOONS", x.many(2), 9999);
        HourByVote y = Check.late();
        y.write(0, 0, 1);
        Check.due("42: left out, its ACT too", y.goAll(0, 0, 1), 0);
        Check.due("42: still ASLEEP", y.state(3), 0);
        y.wakes(0, true);
        Check.due("35: past it", y.prove(3), 3);
        Check.due("38: past it", y.judge(3), 0);
    }
}
