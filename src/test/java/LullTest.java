/** Promises 17 to 20: whom to lull, who lies, who decides. */
public final class LullTest {
    private LullTest() {
    }

    public static void main(String[] args) {
        refuses();
        buysTheCheapest();
        breaksTies();
        lullsAsAsleep();
        lies();
        decides();
        decidesByFactsAsTheyAre();
        Check.end("LullTest");
    }

    private static void refuses() {
        HourByVote x = new HourByVote();
        x.voter(1, 5, 3, 10);
        for (int turn : new int[] {-1, 3}) {
            Check.due("17: buys(" + turn + ")", x.buys(turn), HourByVote.BAD);
            Check.due("18: whom(" + turn + ")", x.whom(turn), HourByVote.BAD);
        }
        Check.due("17: none draws back", x.buys(0), HourByVote.NONE);
        Check.due("18: none draws back", x.whom(0), HourByVote.NONE);
        Check.due("20: power(1)", x.power(1), HourByVote.BAD);
        Check.due("20: power(-1)", x.power(-1), HourByVote.BAD);
    }

    private static void buysTheCheapest() {
        HourByVote x = new HourByVote();
        x.voter(1, 5, 3, 10);
        x.voter(1, 5, 3, 20);
        x.voter(1, 20, 2, 90);
        x.voter(1, 20, 2, 50);
        // 6 ahead, 4 back: it goes ahead as it is
        Check.due("17: ahead", x.buys(2), 0);
        Check.due("18: ahead", x.whom(2), 0);
        Check.due("17: back", x.buys(0), 10);
        Check.due("18: back", x.whom(0), 1);
        Check.due("17: not moved: all but none", x.buys(1), 170);
        Check.due("18: not moved", x.whom(1), 15);
        x.limit(1);
        Check.due("17: not moved, 3 and 4", x.buys(1), 10);
        Check.due("18: not moved", x.whom(1), 1);
        Check.due("17: back by more than 1", x.buys(0), 30);
        Check.due("18: back by more than 1", x.whom(0), 3);
        x.wakes(0, false);
        Check.due("18: who is ASLEEP isn't lulled", x.whom(0), 2);
        Check.due("17: who is ASLEEP isn't paid", x.buys(0), 20);
        Check.due("18: not moved as it is", x.whom(1), 0);
        Check.due("18: ahead by more than 1, so both", x.whom(2), 12);
        Check.due("17: ahead by more than 1, so both", x.buys(2), 140);
        Check.due("9: nothing changed", x.state(3), 14);
    }

    private static void breaksTies() {
        HourByVote x = new HourByVote();
        x.voter(1, 5, 2, 5);
        x.voter(1, 5, 2, 5);
        x.voter(1, 5, 4, 10);
        x.voter(1, 20, 5, 9);
        // 8 ahead, 5 back; less 4 it goes back: 0 and 1 for 10, or 2 alone for 10
        Check.due("17: PRICE", x.buys(0), 10);
        Check.due("18: fewest", x.whom(0), 4);
        x.change(2, 3, 11);
        Check.due("18: the cheapest ahead of the fewest", x.whom(0), 3);
        x.change(2, 2, 1);
        // 5 ahead, 5 back
        x.change(0, 3, 5);
        Check.due("18: not moved as it is", x.whom(1), 0);
        Check.due("18: of the same PRICE and number the least", x.whom(0), 1);
        x.change(0, 3, 6);
        Check.due("18: the cheaper one", x.whom(0), 2);
        x.change(1, 3, 0);
        x.change(0, 3, 0);
        Check.due("17: for nothing", x.buys(0), 0);
        Check.due("18: one, not both", x.whom(0), 1);
    }

    private static void lullsAsAsleep() {
        HourByVote x = new HourByVote();
        x.voter(1, 5, 1, 7);
        x.voter(1, 20, 1, 3);
        x.voter(1, 0, 1, 2);
        Check.rules(x, "voter if awake < 3 and number = 1 more 1;");
        Check.due("18: FACTS change, too", x.whom(0), 4);
        Check.due("17: FACTS change, too", x.buys(0), 2);
    }

    private static void lies() {
        HourByVote x = new HourByVote();
        x.voter(1, 23, 1, 0);
        x.limit(0);
        Check.due("19: who gets what it wants", x.liars(), 0);
        // at 0 one wants 12: ahead it comes as near as back
        x.change(0, 1, 12);
        Check.due("19: 12 away", x.liars(), 0);
        x.voter(1, 20, 1, 0);
        Check.due("19: 12 away, and it would stand: back is nearer", x.liars(), 1);
        x.change(0, 1, 0);
        Check.due("19: who is content gains by a VOTE ahead", x.liars(), 1);
        HourByVote y = new HourByVote();
        // one that is content VOTES 0, but the other one draws ahead by 1
        y.voter(1, 0, 2, 0);
        y.voter(1, 3, 1, 0);
        Check.due("19: as far back is not nearer", y.liars(), 0);
        y.change(0, 2, 1);
        Check.due("19: who is content gains by a VOTE back", y.liars(), 1);
        y.wakes(0, false);
        Check.due("19: not who is ASLEEP", y.liars(), 0);
        y.wakes(0, true);
        y.change(1, 2, 2);
        Check.due("19: too weak", y.liars(), 0);
        y.limit(1);
        Check.due("19: under LIMIT", y.liars(), 1);
        y.limit(2);
        Check.due("19: it stands", y.liars(), 0);
        y.change(0, 2, 9);
        Check.rules(y, "voter if number = 0 nil;");
        y.limit(0);
        Check.due("19: who weighs nothing", y.liars(), 0);
    }

    private static void decides() {
        HourByVote x = new HourByVote();
        x.voter(1, 5, 3, 0);
        x.voter(1, 5, 2, 0);
        x.voter(1, 20, 4, 0);
        // pulls 3, 2, -4: with 0 it goes otherwise ahead of {}, {2}? no: -4 and -1; {1}? no; {1,2}: -2 and 1
        Check.due("20: of the first", x.power(0), 2);
        // {}: 0, 2; {0}: 3, 5; {2}: -4, -2; {0,2}: -1, 1
        Check.due("20: of the second", x.power(1), 2);
        // {}: 0, -4; {0}: 3, -1; {1}: 2, -2; {0,1}: 5, 1
        Check.due("20: of the third", x.power(2), 3);
        x.wakes(1, false);
        Check.due("20: ASLEEP", x.power(1), 0);
        Check.due("20: others who are awake alone", x.power(2), 2);
        x.limit(4);
        Check.due("20: under LIMIT", x.power(2), 0);
        x.wakes(1, true);
        // {1}: 2 and 5; {}, {2}, {1,2} stay within 4
        Check.due("20: under LIMIT", x.power(0), 1);
        HourByVote all = new HourByVote();
        for (int p = 0; p < 7; p++) {
            all.voter(1, 5, 1, 0);
        }
        Check.due("20: only of none", all.power(6), 1);
        all.limit(3);
        // 3 of 6
        Check.due("20: of three others", all.power(0), 20);
    }

    private static void decidesByFactsAsTheyAre() {
        HourByVote x = new HourByVote();
        x.voter(1, 5, 1, 0);
        x.voter(1, 5, 1, 0);
        Check.rules(x, "voter if awake = 2 nil;");
        Check.due("20: FACTS as they are", x.power(0), 0);
        x.wakes(1, false);
        Check.due("20: FACTS as they are", x.power(0), 1);
    }
}
