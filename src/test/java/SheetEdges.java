/** The boundary sentences of promises 39 to 43, and what section 3 says of SHEETS. */
final class SheetEdges {
    private static final int BAD = HourByVote.BAD, STATE = HourByVote.STATE;
    private static final int NOTHING = -11, OUTSIDE = -12, OTHER = -13, BELOW = -14;
    private static final int MIN = Integer.MIN_VALUE, MAX = Integer.MAX_VALUE;

    private SheetEdges() {
    }

    static void all() {
        sheets();
        sheet();
        sheetMissing();
        sheetRefused();
        write();
        writeNarrowed();
        writeRefused();
        item();
        itemLongs();
        itemAsLow();
        itemRefused();
        goAll();
        goAllLeavesOut();
        goAllLeavesOutLate();
        goAllRefused();
        goAllDoneAhead();
        wouldBe();
        wouldBeRefused();
        wouldBeByItems();
    }

    private static HourByVote bytes(int... items) {
        HourByVote x = new HourByVote();
        x.sheet(0, 0, items.length);
        for (int i = 0; i < items.length; i++) {
            x.write(0, i, items[i]);
        }
        return x;
    }

    private static HourByVote with(HourByVote x, int want, int weight) {
        x.voter(1, want, weight, 0);
        return x;
    }

    private static void sheets() {
        Edge.of("Section 3", "SHEETS 0 to 3 are rows of bytes (sort 0), shorts (1), ints (2), longs (3) or booleans (4), 40 at most, or missing (at first).");
        HourByVote x = new HourByVote();
        for (int s = 0; s <= 3; s++) {
            Edge.due("missing at first: " + s, x.item(s, 0, 0), NOTHING);
            for (int sort = 0; sort <= 4; sort++) {
                Edge.due("40 of sort " + sort, x.sheet(s, sort, 40), 1);
                Edge.due("the last one", x.item(s, sort, 39), 0);
                Edge.due("one more", x.item(s, sort, 40), OUTSIDE);
                Edge.due("41", x.sheet(s, sort, 41), BAD);
            }
        }
        Edge.due("no SHEET 4", x.sheet(4, 0, 1), BAD);
        Edge.due("no SHEET -1", x.sheet(-1, 0, 1), BAD);
    }

    private static void sheet() {
        Edge.of("Promise 39", "A SHEET becomes a row of n of a sort, all 0");
        HourByVote x = new HourByVote();
        for (int sort = 0; sort <= 4; sort++) {
            Edge.due("none", x.sheet(3, sort, 0), 1);
            Edge.due("no item", x.item(3, sort, 0), OUTSIDE);
            Edge.due("40", x.sheet(3, sort, 40), 1);
            for (int i = 0; i < 40; i++) {
                x.write(3, i, 1);
            }
            Edge.due("40 anew", x.sheet(3, sort, 40), 1);
            Edge.due("all 0: the first", x.item(3, sort, 0), 0);
            Edge.due("all 0: the last", x.item(3, sort, 39), 0);
            Edge.due("one", x.sheet(3, sort, 1), 1);
            Edge.due("the only one", x.item(3, sort, 0), 0);
            Edge.due("no second", x.item(3, sort, 1), OUTSIDE);
        }
        x.sheet(2, 2, 40);
        x.write(2, 39, 7);
        x.sheet(3, 2, 40);
        x.sheet(1, 2, 40);
        Edge.due("those beside it stay", x.item(2, 2, 39), 7);
    }

    private static void sheetMissing() {
        Edge.of("Promise 39", "or missing (sort -1; n counts nothing then): 1.");
        for (int n : new int[] {0, 1, -1, 40, 41, MIN, MAX}) {
            HourByVote x = bytes(5);
            Edge.due("sheet(0, -1, " + n + ")", x.sheet(0, -1, n), 1);
            Edge.due("missing", x.item(0, 0, 0), NOTHING);
            Edge.due("there again", x.sheet(0, 0, 1), 1);
            Edge.due("all 0", x.item(0, 0, 0), 0);
        }
    }

    private static void sheetRefused() {
        Edge.of("Promise 39", "BAD: no such SHEET, sort, n above 40; -14.");
        Twins.off("sheet(sheet, 0, 1)", (x, v) -> x.sheet(v, 0, 1), 0, 3, BAD);
        Twins.off("sheet(sheet, -1, 0)", (x, v) -> x.sheet(v, -1, 0), 0, 3, BAD);
        Twins.off("sheet(0, sort, 1)", (x, v) -> x.sheet(0, v, 1), -1, 4, BAD);
        for (int sort = 0; sort <= 4; sort++) {
            int s = sort;
            Twins.never("sheet(0, " + s + ", 41)", x -> x.sheet(0, s, 41), BAD);
            Twins.never("sheet(0, " + s + ", MAX)", x -> x.sheet(0, s, MAX), BAD);
            Twins.never("sheet(0, " + s + ", -1)", x -> x.sheet(0, s, -1), BELOW);
            Twins.never("sheet(3, " + s + ", MIN)", x -> x.sheet(3, s, MIN), BELOW);
        }
    }

    private static void write() {
        Edge.of("Promise 40", "Item i becomes v");
        HourByVote x = new HourByVote();
        x.sheet(3, 2, 40);
        Edge.due("the first", x.write(3, 0, MIN), 1);
        Edge.due("the last", x.write(3, 39, MAX), 1);
        Edge.due("the first", x.item(3, 2, 0), MIN);
        Edge.due("the second stays", x.item(3, 2, 1), 0);
        Edge.due("the last but one stays", x.item(3, 2, 38), 0);
        Edge.due("the last", x.item(3, 2, 39), MAX);
    }

    private static void writeNarrowed() {
        Edge.of("Promise 40", "narrowed to its sort (booleans: whether it is not 0): 1.");
        int[][] due = {
            {0, 127, 127}, {0, 128, -128}, {0, 255, -1}, {0, 256, 0}, {0, -128, -128}, {0, -129, 127}, {0, MAX, -1}, {0, MIN, 0},
            {1, 32767, 32767}, {1, 32768, -32768}, {1, 65535, -1}, {1, 65536, 0}, {1, -32768, -32768}, {1, -32769, 32767},
            {1, MAX, -1}, {1, MIN, 0}, {2, MAX, MAX}, {2, MIN, MIN}, {3, MAX, MAX}, {3, MIN, MIN}, {3, -1, -1},
            {4, 0, 0}, {4, 1, 1}, {4, -1, 1}, {4, 256, 1}, {4, MIN, 1}, {4, MAX, 1}, {4, 2, 1}
        };
        HourByVote x = new HourByVote();
        for (int[] d : due) {
            x.sheet(1, d[0], 1);
            Edge.due(d[1] + " to sort " + d[0], x.write(1, 0, d[1]), 1);
            Edge.due(d[1] + " of sort " + d[0], x.item(1, d[0], 0), d[2]);
        }
        x.sheet(1, 4, 1);
        x.write(1, 0, 5);
        x.write(1, 0, 0);
        Edge.due("0 again", x.item(1, 4, 0), 0);
    }

    private static void writeRefused() {
        Edge.of("Promise 40", "BAD: no such SHEET; -11; -12.");
        Twins.off("write(sheet, 0, 1)", (x, v) -> x.write(v, 0, 1), 0, 3, BAD);
        for (int i : new int[] {MIN, -1, 0, 40, MAX}) {
            Twins.same("missing: write(3, " + i + ", 5)", x -> x.write(3, i, 5), NOTHING, Twins::empty, Twins::told);
        }
        for (int i : new int[] {MIN, -1, 2, 40, MAX}) {
            Twins.same("write(1, " + i + ", 5)", x -> x.write(1, i, 5), OUTSIDE, Twins::told);
        }
        HourByVote x = new HourByVote();
        x.sheet(0, 0, 0);
        Edge.due("no item at all", x.write(0, 0, 5), OUTSIDE);
    }

    private static void item() {
        Edge.of("Promise 41", "Item i, taken for a sort (0 to 4; of longs the lowest 32 bits; of booleans 1, 0).");
        HourByVote x = new HourByVote();
        for (int sort = 0; sort <= 4; sort++) {
            x.sheet(sort % 4, sort, 40);
            x.write(sort % 4, 0, 1);
            x.write(sort % 4, 39, 1);
            for (int as = 0; as <= 4; as++) {
                Edge.due(sort + " taken for " + as + ", the first", x.item(sort % 4, as, 0), as == sort ? 1 : OTHER);
                Edge.due(sort + " taken for " + as + ", the last", x.item(sort % 4, as, 39), as == sort ? 1 : OTHER);
                Edge.due(sort + " taken for " + as + ", outside", x.item(sort % 4, as, 40), as == sort ? OUTSIDE : OTHER);
            }
        }
    }

    private static void itemLongs() {
        Edge.of("Promise 41", "of longs the lowest 32 bits");
        HourByVote x = new HourByVote();
        x.sheet(0, 3, 1);
        for (int v : new int[] {0, 1, -1, MAX, MIN, MIN + 1, 65536, 256}) {
            x.write(0, 0, v);
            Edge.due("" + v, x.item(0, 3, 0), v);
        }
    }

    private static void itemAsLow() {
        Edge.of("Promise 41", "(An item may be as low as these, too.)");
        HourByVote x = new HourByVote();
        for (int sort = 0; sort <= 3; sort++) {
            x.sheet(0, sort, 1);
            for (int v : new int[] {-1, -2, -3, -4, -11, -12, -13, -14, -15}) {
                x.write(0, 0, v);
                Edge.due(v + " of sort " + sort, x.item(0, sort, 0), v);
            }
        }
    }

    private static void itemRefused() {
        Edge.of("Promise 41", "BAD: no such SHEET, sort; -13; -11; -12.");
        Twins.off("item(sheet, 0, 0)", (x, v) -> x.item(v, 0, 0), 0, 3, BAD);
        Twins.off("item(0, sort, 0)", (x, v) -> x.item(0, v, 0), 0, 4, BAD);
        for (int sort = 0; sort <= 4; sort++) {
            int s = sort;
            Twins.same("missing: item(2, " + s + ", 0)", x -> x.item(2, s, 0), NOTHING, Twins::empty, Twins::told);
        }
        for (int i : new int[] {MIN, -1, 3, 40, MAX}) {
            Twins.same("item(0, 0, " + i + ")", x -> x.item(0, 0, i), OUTSIDE, Twins::told);
            Twins.same("another sort: item(0, 1, " + i + ")", x -> x.item(0, 1, i), OTHER, Twins::told);
        }
    }

    private static void goAll() {
        Edge.of("Promise 42", "n (0 to 20) items of a SHEET taken for bytes, from item i on, are ACTS, each followed by a NOON");
        HourByVote x = new HourByVote();
        x.sheet(0, 0, 40);
        with(x, 5, 3);
        with(x, 20, 3);
        x.write(0, 39, 2);
        x.write(0, 20, 1);
        Edge.due("none", x.goAll(0, 0, 0), 0);
        Edge.due("none, behind the last", x.goAll(0, 40, 0), 0);
        Edge.due("no NOON", x.state(1), 0);
        // 0, and 0 again: as much ahead as back
        Edge.due("20, SUM is 0", x.goAll(0, 0, 20), 0);
        Edge.due("NOONS", x.state(1), 20);
        Edge.due("HOUR", x.state(0), 0);
        // the first one sleeps, so 19 go back from 0 to ... 20, where it stands
        Edge.due("the last 20", x.goAll(0, 20, 20), 4);
        Edge.due("NOONS", x.state(1), 40);
        Edge.due("HOUR", x.state(0), 20);
        Edge.due("both ASLEEP", x.state(3), 0);
        Edge.due("the last item alone", x.goAll(0, 39, 1), 0);
        Edge.due("woken", x.state(3), 2);
    }

    private static void goAllLeavesOut() {
        Edge.of("Promise 42", "(what is none, or when NOONS is 9999, is left out)");
        HourByVote x = bytes(-128, -1, 0, 1, 2, 127);
        with(x, 9, 1);
        // 0: ahead; 1: ASLEEP
        Edge.due("two are ACTS", x.goAll(0, 0, 6), 1);
        Edge.due("NOONS", x.state(1), 2);
        Edge.due("ASLEEP", x.state(3), 0);
        HourByVote seven = bytes(7, 8);
        for (int p = 0; p < 7; p++) {
            with(seven, 9, 1);
        }
        Edge.due("7 is one, 8 is none", seven.goAll(0, 0, 2), 1);
        Edge.due("the last one is ASLEEP", seven.state(3), 63);
        HourByVote none = bytes(1, 0);
        Edge.due("nobody: only 0 is one", none.goAll(0, 0, 2), 0);
        Edge.due("NOONS", none.state(1), 1);
    }

    private static void goAllLeavesOutLate() {
        Edge.of("Promise 42", "(what is none, or when NOONS is 9999, is left out)");
        HourByVote x = Check.late();
        x.write(0, 0, 1);
        Edge.due("left out, the ACT too", x.goAll(0, 0, 1), 0);
        Edge.due("still ASLEEP", x.state(3), 0);
        Edge.due("outside all the same", x.goAll(0, 19, 2), OUTSIDE);
        Edge.due("NOONS", x.state(1), 9999);
        HourByVote y = new HourByVote();
        y.voter(1, 12, 1, 0);
        y.sheet(0, 0, 20);
        y.wakes(0, false);
        for (int i = 0; i < 499; i++) {
            y.goAll(0, 0, 20);
        }
        y.goAll(0, 0, 17);
        y.write(0, 0, 1);
        y.write(0, 3, 1);
        // two NOONS are left: it wakes and goes ahead twice; the rest is left out
        Edge.due("the last two of five", y.goAll(0, 0, 5), 2);
        Edge.due("still awake", y.state(3), 1);
        Edge.due("HOUR", y.state(0), 2);
    }

    private static void goAllRefused() {
        Edge.of("Promise 42", "BAD: no such SHEET, n; -13; -11; -12: what stood ahead was done.");
        Twins.off("goAll(sheet, 0, 1)", (x, v) -> x.goAll(v, 0, 1), 0, 3, BAD);
        Twins.off("goAll(0, 0, n)", (x, v) -> x.goAll(0, 0, v), 0, 20, BAD);
        for (int n : new int[] {0, 1, 20}) {
            Twins.same("shorts: goAll(1, 0, " + n + ")", x -> x.goAll(1, 0, n), OTHER, Twins::told);
            Twins.same("missing: goAll(2, 0, " + n + ")", x -> x.goAll(2, 0, n), NOTHING, Twins::empty, Twins::told);
        }
        for (int sort = 1; sort <= 4; sort++) {
            HourByVote x = new HourByVote();
            x.sheet(0, sort, 1);
            Edge.due("sort " + sort, x.goAll(0, 0, 1), OTHER);
        }
        for (int i : new int[] {MIN, -1, 3, MAX}) {
            Twins.same("nothing stood ahead: goAll(0, " + i + ", 2)", x -> x.goAll(0, i, 2), OUTSIDE, Twins::told);
        }
    }

    private static void goAllDoneAhead() {
        Edge.of("Promise 42", "-12: what stood ahead was done.");
        HourByVote x = bytes(0, 0, 1);
        with(x, 9, 1);
        Edge.due("three, and one outside", x.goAll(0, 0, 4), OUTSIDE);
        Edge.due("NOONS", x.state(1), 3);
        Edge.due("HOUR", x.state(0), 2);
        Edge.due("LAG", x.state(4), 2);
        Edge.due("ASLEEP", x.state(3), 0);
        Edge.due("one, and one outside", x.goAll(0, 2, 2), OUTSIDE);
        Edge.due("woken", x.state(3), 1);
        Edge.due("HOUR", x.state(0), 3);
        Edge.due("one outside, ahead of all", x.goAll(0, -1, 3), OUTSIDE);
        Edge.due("HOUR stays", x.state(0), 3);
        Edge.due("NOONS stay", x.state(1), 4);
    }

    private static void wouldBe() {
        Edge.of("Promise 43", "100 times at how many NOONS SUM wouldn't be 0, and the HOUR in the end");
        HourByVote x = new HourByVote();
        x.sheet(0, 0, 40);
        x.voter(1, 23, 1, 0);
        x.clock(23);
        Edge.due("none", x.wouldBe(0, 0, 0), 23);
        Edge.due("none, behind the last", x.wouldBe(0, 40, 0), 23);
        Edge.due("20, SUM is 0", x.wouldBe(0, 20, 20), 23);
        x.clock(3);
        Edge.due("four back over midnight", x.wouldBe(0, 0, 20), 423);
        x.write(0, 5, 1);
        Edge.due("back, then ASLEEP, and it stays so", x.wouldBe(0, 4, 20), 102);
        x.write(0, 6, 1);
        Edge.due("back, then ASLEEP, then woken: three more back", x.wouldBe(0, 4, 20), 423);
        x.write(0, 5, 0);
        x.write(0, 6, 0);
        x.voter(1, 11, 9, 0);
        x.voter(1, 23, 9, 0);
        x.change(0, 2, 9);
        // it never stands: 11 and 23 draw it against one another, and one of three is more
        Edge.due("20 NOONS, SUM is never 0, whatever the HOUR", x.wouldBe(0, 0, 20) / 100, 20);
        Edge.due("NOONS stay", x.state(1), 0);
        Edge.due("as goAll() would do", x.wouldBe(0, 0, 20), 100 * x.goAll(0, 0, 20) + x.state(0));
    }

    private static void wouldBeRefused() {
        Edge.of("Promise 43", "BAD: no such SHEET, n; -13; -11");
        Twins.off("wouldBe(sheet, 0, 1)", (x, v) -> x.wouldBe(v, 0, 1), 0, 3, BAD);
        Twins.off("wouldBe(0, 0, n)", (x, v) -> x.wouldBe(0, 0, v), 0, 20, BAD);
        for (int n : new int[] {0, 1, 20}) {
            Twins.same("shorts: wouldBe(1, 0, " + n + ")", x -> x.wouldBe(1, 0, n), OTHER, Twins::told);
            Twins.same("missing: wouldBe(2, 0, " + n + ")", x -> x.wouldBe(2, 0, n), NOTHING, Twins::empty, Twins::told);
        }
        for (int sort = 1; sort <= 4; sort++) {
            HourByVote x = new HourByVote();
            x.sheet(0, sort, 1);
            Edge.due("sort " + sort, x.wouldBe(0, 0, 1), OTHER);
        }
    }

    private static void wouldBeByItems() {
        Edge.of("Promise 43", "then, by items, -12; STATE: one is no ACT.");
        // told(): three bytes, 0, 1, and 4, which is no ACT of three VOTERS
        for (int i : new int[] {MIN, -1, 3, MAX}) {
            Twins.same("wouldBe(0, " + i + ", 1)", x -> x.wouldBe(0, i, 1), OUTSIDE, Twins::told);
        }
        Twins.same("4 is no ACT", x -> x.wouldBe(0, 2, 1), STATE, Twins::told);
        Twins.same("no ACT ahead of outside", x -> x.wouldBe(0, 0, 4), STATE, Twins::told);
        Twins.same("outside ahead of no ACT", x -> x.wouldBe(0, -1, 4), OUTSIDE, Twins::told);
        HourByVote x = bytes(7, 8, -1, 127, -128, 7);
        for (int p = 0; p < 7; p++) {
            with(x, 9, 1);
        }
        Edge.due("7 is one", x.wouldBe(0, 0, 1), 101);
        for (int i = 1; i <= 4; i++) {
            Edge.due("none at " + i, x.wouldBe(0, i, 1), STATE);
        }
        Edge.due("the last item, and outside", x.wouldBe(0, 5, 2), OUTSIDE);
        HourByVote none = bytes(0, 1);
        Edge.due("nobody: 0 is one", none.wouldBe(0, 0, 1), 0);
        Edge.due("nobody: 1 is none", none.wouldBe(0, 1, 1), STATE);
    }
}
