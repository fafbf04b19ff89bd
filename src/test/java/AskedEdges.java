import java.util.function.ToIntFunction;

/** "What is asked changes nothing, if not told (it may go on past NOON 9999)." */
final class AskedEdges {
    private static final String PART = "Section 3";

    private AskedEdges() {
    }

    static void all() {
        changesNothing();
        plansChangeNothing();
        thingsChangeNothing();
        pastTheLastNoon();
        plansPastTheLastNoon();
        gamesPastTheLastNoon();
    }

    private static void asks(String call, ToIntFunction<HourByVote> asked) {
        Twins.asks(call, asked, Twins::empty, Twins::told, Twins::full);
    }

    private static void changesNothing() {
        Edge.of(PART, "What is asked changes nothing, if not told");
        asks("voterOf(0, 6)", x -> x.voterOf(0, 6));
        asks("state(3)", x -> x.state(3));
        asks("sum()", x -> x.sum());
        asks("on(60)", x -> x.on(60));
        asks("when(12)", x -> x.when(12));
        asks("cycle(0)", x -> x.cycle(0));
        asks("cycle(1)", x -> x.cycle(1));
        for (int turn = 0; turn <= 2; turn++) {
            int t = turn;
            asks("buys(" + t + ")", x -> x.buys(t));
            asks("whom(" + t + ")", x -> x.whom(t));
        }
        asks("liars()", x -> x.liars());
        asks("power(0)", x -> x.power(0));
        asks("span(0)", x -> x.span(0));
        asks("liar()", x -> x.liar());
        asks("often(60, 8)", x -> x.often(60, 8));
        asks("many(0)", x -> x.many(0));
    }

    private static void plansChangeNothing() {
        Edge.of(PART, "What is asked changes nothing, if not told");
        for (int hour : new int[] {0, 7, 9, 12, 22}) {
            asks("fewest(" + hour + ")", x -> x.fewest(hour));
            asks("ith(" + hour + ", 0)", x -> x.ith(hour, 0));
            asks("ways(" + hour + ", 3)", x -> x.ways(hour, 3));
            asks("limitFor(" + hour + ", 2)", x -> x.limitFor(hour, 2));
            asks("judge(" + hour + ")", x -> x.judge(hour));
        }
        asks("hours(4)", x -> x.hours(4));
        asks("game(4)", x -> x.game(4));
        asks("play(4)", x -> x.play(4));
    }

    private static void thingsChangeNothing() {
        Edge.of(PART, "What is asked changes nothing, if not told");
        asks("row(0, 1)", x -> x.row(0, 1));
        asks("item(0, 0, 1)", x -> x.item(0, 0, 1));
        asks("wouldBe(0, 0, 3)", x -> x.wouldBe(0, 0, 3));
        asks("wouldBe(3, 0, 2)", x -> x.wouldBe(3, 0, 2));
        asks("taken(1, 5)", x -> x.taken(1, 5));
        asks("trace(0)", x -> x.trace(0));
    }

    private static HourByVote late() {
        HourByVote x = Check.late();
        x.wakes(0, true);
        Edge.due("no NOON is left: noon()", x.noon(), HourByVote.STATE);
        return x;
    }

    private static void pastTheLastNoon() {
        Edge.of(PART, "(it may go on past NOON 9999)");
        HourByVote x = late();
        Edge.due("on(2)", x.on(2), 2);
        Edge.due("when(3)", x.when(3), 3);
        Edge.due("cycle(0)", x.cycle(0), 12);
        Edge.due("buys(2)", x.buys(2), 0);
        Edge.due("whom(1)", x.whom(1), 1);
        Edge.due("power(0)", x.power(0), 1);
        Edge.due("NOONS stay", x.state(1), 9999);
        x = late();
        Edge.due("often(60, 0) and often(60, 1)", x.often(60, 0) + x.often(60, 1), 60);
        Edge.due("wouldBe(0, 0, 3)", x.wouldBe(0, 0, 3), 303);
        Edge.due("cycle(1)", x.cycle(1), 1);
        Edge.due("NOONS stay", x.state(1), 9999);
    }

    private static void plansPastTheLastNoon() {
        Edge.of(PART, "(it may go on past NOON 9999)");
        HourByVote x = late();
        Edge.due("fewest(3)", x.fewest(3), 3);
        Edge.due("ith(3, 2)", x.ith(3, 2), 0);
        Edge.due("ways(1, 1)", x.ways(1, 1), 1);
        Edge.due("hours(2)", x.hours(2), 7);
        Edge.due("limitFor(2, 2)", x.limitFor(2, 2), 0);
        Edge.due("NOONS stay", x.state(1), 9999);
    }

    private static void gamesPastTheLastNoon() {
        Edge.of(PART, "(it may go on past NOON 9999)");
        HourByVote x = late();
        Edge.due("game(1)", x.game(1), 11);
        Edge.due("play(1)", x.play(1), 0);
        Edge.due("prove(3)", x.prove(3), 3);
        Edge.due("judge(3)", x.judge(3), 0);
        Edge.due("row(2, 2)", x.row(2, 2), 3);
        Edge.due("NOONS stay", x.state(1), 9999);
    }
}
