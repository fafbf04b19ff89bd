/** The boundary sentences of "What it is" and "Terms", but for the sections. */
final class TermsEdges {
    private static final int BAD = HourByVote.BAD, FULL = HourByVote.FULL, NONE = HourByVote.NONE, STATE = HourByVote.STATE;
    private static final int NOTHING = -11, OUTSIDE = -12, OTHER = -13, BELOW = -14, PARTED = -15;

    private TermsEdges() {
    }

    static void all() {
        lastCall();
        refusals();
        hostRefusals();
        changesNothing();
        usesUpTheTape();
        firstNamed();
        firstNamedOfTheHost();
        sets();
        quotients();
    }

    private static void lastCall() {
        Edge.of("What it is", "An object is used for at most 512 calls after it has been made");
        HourByVote x = new HourByVote();
        for (int i = 1; i <= 511; i++) {
            x.noon();
        }
        Edge.due("the 512th call: many(2)", x.many(2), 511);
    }

    private static void refusals() {
        Edge.of("Terms", "BAD (-1) there is no such thing, or a number is not as told; FULL (-2); NONE (-3); STATE (-4)");
        HourByVote x = new HourByVote();
        Edge.due("no such thing: voterOf(0, 0)", x.voterOf(0, 0), -1);
        Edge.due("a number is not as told: clock(24)", x.clock(24), -1);
        for (int p = 0; p < 7; p++) {
            x.voter(1, 0, 1, 0);
        }
        Edge.due("voter 7", x.voter(1, 0, 1, 0), -2);
        Edge.due("none goes ahead: buys(2)", x.buys(2), -3);
        x.sheet(0, 0, 1);
        x.write(0, 0, 8);
        Edge.due("8 is no ACT: wouldBe(0, 0, 1)", x.wouldBe(0, 0, 1), -4);
    }

    private static void hostRefusals() {
        Edge.of("Terms", "-11 nothing where something is asked, -12 a place outside, -13 a thing of another sort or kind, "
            + "-14 a size below 0, -15 parted by 0");
        HourByVote x = new HourByVote();
        Edge.due("nothing: write(0, 0, 0)", x.write(0, 0, 0), -11);
        x.sheet(0, 0, 1);
        Edge.due("outside: item(0, 0, 1)", x.item(0, 0, 1), -12);
        Edge.due("another sort: item(0, 1, 0)", x.item(0, 1, 0), -13);
        x.voter(1, 0, 1, 0);
        x.shelf(0, 0, 0);
        Edge.due("another KIND: taken(0, 2)", x.taken(0, 2), -13);
        Edge.due("below 0: sheet(1, 0, -1)", x.sheet(1, 0, -1), -14);
        Edge.due("parted by 0: act(0, 2, 1)", x.act(0, 2, 1), -15);
    }

    private static void changesNothing() {
        Edge.of("Terms", "such a call changes nothing");
        // one refusal of each kind; the promises have the others
        Twins.same("BAD: change(0, 2, 0)", x -> x.change(0, 2, 0), BAD, Twins::told, Twins::full);
        Twins.same("FULL: feed(-1, 8)", x -> x.feed(-1, 8), FULL, Twins::full);
        Twins.same("NONE: prove(20)", x -> x.prove(20), NONE, Twins::told);
        Twins.same("STATE: wouldBe(0, 2, 1)", x -> x.wouldBe(0, 2, 1), STATE, Twins::told);
        Twins.same("-11: write(3, 0, 0)", x -> x.write(3, 0, 0), NOTHING, Twins::told);
        Twins.same("-12: write(1, 2, 5)", x -> x.write(1, 2, 5), OUTSIDE, Twins::told);
        Twins.same("-13: goAll(1, 0, 1)", x -> x.goAll(1, 0, 1), OTHER, Twins::told);
        Twins.same("-14: sheet(0, 1, -1)", x -> x.sheet(0, 1, -1), BELOW, Twins::told, Twins::full);
    }

    private static void usesUpTheTape() {
        Edge.of("Terms", "(but that THE TAPE is used up by rules())");
        HourByVote x = new HourByVote();
        HourByVote y = new HourByVote();
        Twins.some(x);
        Twins.some(y);
        Edge.due("a FAULT", Check.rules(x, "voter nil; x"), -111);
        Edge.due("many(5)", x.many(5), 0);
        Twins.alike("but for THE TAPE, a FAULT", x, y);
    }

    private static void firstNamed() {
        Edge.of("Terms", "of several the first named");
        Twins.same("BAD ahead of FULL: voter(6, 0, 1, 0)", x -> x.voter(6, 0, 1, 0), BAD, Twins::full);
        Twins.same("BAD ahead of FULL: voter(1, 0, 1, 100)", x -> x.voter(1, 0, 1, 100), BAD, Twins::full);
        Twins.same("BAD ahead of FULL: feed(1, 9)", x -> x.feed(1, 9), BAD, Twins::full);
        Twins.same("BAD ahead of FULL: report(61, 0)", x -> x.report(61, 0), BAD, Twins::full);
        Twins.same("BAD ahead of NONE: ith(20, 4)", x -> x.ith(20, 4), BAD, Twins::empty);
        Twins.same("BAD ahead of NONE: limitFor(20, 4)", x -> x.limitFor(20, 4), BAD, Twins::empty);
        Twins.same("BAD ahead of NONE: buys(3)", x -> x.buys(3), BAD, Twins::empty);
        HourByVote x = new HourByVote();
        x.report(0, 0);
        x.report(0, 1);
        Edge.due("no LAW: span(1)", x.span(1), NONE);
        Edge.due("BAD ahead of NONE: span(3)", x.span(3), BAD);
    }

    private static void firstNamedOfTheHost() {
        Edge.of("Terms", "of several the first named");
        // told(): SHEET 0 has three bytes (0, 1, 4), SHEET 1 two shorts, 2 and 3 are missing; SHELF 0 holds nothing
        Twins.same("BAD ahead of -14: sheet(4, 0, -1)", x -> x.sheet(4, 0, -1), BAD, Twins::told);
        Twins.same("BAD ahead of -14: sheet(0, 5, -1)", x -> x.sheet(0, 5, -1), BAD, Twins::told);
        Twins.same("BAD ahead of -12: write(4, -1, 0)", x -> x.write(4, -1, 0), BAD, Twins::told);
        Twins.same("-11 ahead of -12: write(3, -1, 0)", x -> x.write(3, -1, 0), NOTHING, Twins::told);
        Twins.same("BAD ahead of -13: item(1, 5, 0)", x -> x.item(1, 5, 0), BAD, Twins::told);
        Twins.same("BAD ahead of -11: item(3, 5, 0)", x -> x.item(3, 5, 0), BAD, Twins::told);
        Twins.same("-13 ahead of -12: item(1, 0, 9)", x -> x.item(1, 0, 9), OTHER, Twins::told);
        Twins.same("-11 ahead of -12: item(3, 0, 9)", x -> x.item(3, 0, 9), NOTHING, Twins::told);
        Twins.same("BAD ahead of -13: goAll(1, 0, 21)", x -> x.goAll(1, 0, 21), BAD, Twins::told);
        Twins.same("-13 ahead of -12: goAll(1, 9, 1)", x -> x.goAll(1, 9, 1), OTHER, Twins::told);
        Twins.same("-11 ahead of -12: goAll(3, 9, 1)", x -> x.goAll(3, 9, 1), NOTHING, Twins::told);
        Twins.same("BAD ahead of -11: wouldBe(3, 0, 21)", x -> x.wouldBe(3, 0, 21), BAD, Twins::told);
        Twins.same("-13 ahead of -12: wouldBe(1, 9, 1)", x -> x.wouldBe(1, 9, 1), OTHER, Twins::told);
        Twins.same("-11 ahead of -12: wouldBe(3, 9, 1)", x -> x.wouldBe(3, 9, 1), NOTHING, Twins::told);
        Twins.same("BAD ahead of -11: taken(0, 6)", x -> x.taken(0, 6), BAD, Twins::told);
    }

    private static void sets() {
        Edge.of("Terms", "Sets are told by bits.");
        HourByVote x = new HourByVote();
        for (int p = 0; p < 7; p++) {
            x.voter(1, 20, 1, 9 - p);
        }
        Edge.due("all seven: state(3)", x.state(3), 0x7f);
        x.wakes(0, false);
        Edge.due("all but the first: state(3)", x.state(3), 0x7e);
        Edge.due("all six that are awake: whom(1)", x.whom(1), 0x7e);
        x.clock(23);
        x.limit(50);
        Edge.due("the last HOUR: hours(1)", x.hours(1), 0x800000);
        x.clock(0);
        Edge.due("the first HOUR: hours(1)", x.hours(1), 1);
    }

    private static void quotients() {
        Edge.of("Terms", "Quotients are cut towards 0.");
        HourByVote x = new HourByVote();
        x.voter(4, 2, 9, 0);
        x.voter(1, 0, 1, 0);
        Edge.due("half of 9", x.voterOf(0, 6), 4);
        x.change(0, 2, 1);
        Edge.due("half of 1", x.voterOf(0, 6), 0);
        x.remake(0, 1);
        x.shelf(0, 0, 0);
        Edge.due("7 by 2", x.act(0, 2, 7), 3);
        Edge.due("-7 by 2", x.act(0, 2, -7), -3);
        Edge.due("-1 by 2", x.act(0, 2, -1), 0);
        x.shelf(0, 0, 1);
        Edge.due("-7 by -1", x.act(0, 2, -7), 7);
        x.voter(1, 0, 1, 0);
        x.shelf(0, 0, 2);
        Edge.due("7 by -2", x.act(0, 2, 7), -3);
        Edge.due("-7 by -2", x.act(0, 2, -7), 3);
    }
}
