/** The boundary sentences of promises 44 to 48, and what section 3 says of SHELVES, ACTS and THE TRACE. */
final class ThingEdges {
    private static final int BAD = HourByVote.BAD, NONE = HourByVote.NONE;
    private static final int NOTHING = -11, OTHER = -13, PARTED = -15;
    private static final int MIN = Integer.MIN_VALUE, MAX = Integer.MAX_VALUE;
    private static final int WISHES = 0, SWAYS = 1, SHARES = 2, TELLS = 3;
    private static final int LOVER = 1, DEBTOR = 2, SHIFT = 3, BAKER = 4, SLEEPER = 5;
    private static final String PART = "Section 3";

    private ThingEdges() {
    }

    static void all() {
        wrapsWishes();
        wrapsSways();
        wrapsShares();
        wrapsTells();
        parted();
        partedInside();
        leftFirst();
        latestAct();
        thirty();
        shelves();
        shelvesOfNobody();
        shelf();
        shelfOfARow();
        shelfRefused();
        taken();
        takenRow();
        takenRefused();
        act();
        actRefused();
        trace();
        traceRefused();
        many();
        manyRefused();
    }

    /** SHELF 0 holds a VOTER of a KIND with number n and WANT a. */
    private static HourByVote thing(int kind, int n, int a) {
        HourByVote x = new HourByVote();
        for (int p = 0; p <= n; p++) {
            x.voter(kind, a, 1, 0);
        }
        x.shelf(0, 0, n);
        return x;
    }

    private static void does(String name, HourByVote x, int act, int arg, int due, int... bodies) {
        Edge.due(name + ": act(0, " + act + ", " + arg + ")", x.act(0, act, arg), due);
        for (int i = 0; i < bodies.length; i++) {
            Edge.due(name + ": trace(" + i + ")", x.trace(i), bodies[i]);
        }
        Edge.due(name + ": no more bodies", x.many(6), bodies.length);
    }

    private static void wrapsWishes() {
        Edge.of(PART, "with a number x (ints that wrap)");
        does("10", thing(BAKER, 0, 23), WISHES, MAX, MIN + 22, 10);
        does("20", thing(LOVER, 0, 5), WISHES, MAX, 8, 20, 10);
        does("20, far below", thing(LOVER, 0, 0), WISHES, MIN, 0, 20, 10);
        does("50", thing(SHIFT, 0, 0), WISHES, MIN, MAX, 50, 10);
    }

    private static void wrapsSways() {
        Edge.of(PART, "with a number x (ints that wrap)");
        does("11", thing(BAKER, 6, 0), SWAYS, MIN, MAX - 5, 11, 10);
        does("30", thing(DEBTOR, 1, 0), SWAYS, MIN, MAX - 1, 30, 11, 10);
        does("60", thing(SLEEPER, 0, 0), SWAYS, MIN, MIN, 60, 11, 10);
        does("60, one more", thing(SLEEPER, 0, 0), SWAYS, MIN + 1, MAX, 60, 11, 10);
    }

    private static void wrapsShares() {
        Edge.of(PART, "with a number x (ints that wrap)");
        does("12, by -1", thing(LOVER, 1, 0), SHARES, MIN, MIN, 12);
        does("12, by -1", thing(LOVER, 1, 0), SHARES, MAX, MIN + 1, 12);
        does("40", thing(BAKER, 0, 1), SHARES, MIN, MAX - 2, 40, 12);
        does("40, by -1", thing(BAKER, 1, 0), SHARES, MIN + 3, MIN, 40, 12);
        // (x - 3) by 1, less 1 and 2
        does("61", thing(SLEEPER, 1, 2), SHARES, MIN + 3, MAX - 2, 61, 40, 12, 10);
    }

    private static void wrapsTells() {
        Edge.of(PART, "with a number x (ints that wrap)");
        // (x + 1 - 1) ^ 0 ^ 1 is the greatest int; 1 by 1 comes to it
        does("51", thing(SHIFT, 0, 1), TELLS, MAX - 1, MIN, 51, 13, 30, 11, 50, 10, 12);
        does("13", thing(BAKER, 6, 0), TELLS, MIN, MAX - 5, 13, 11, 10);
    }

    private static void parted() {
        Edge.of(PART, "12 shares: x by (a - n), the rest away (-15 if these are the same; that is all that act() answers then).");
        for (int n : new int[] {0, 6}) {
            does("a lover", thing(LOVER, n, n), SHARES, 9, PARTED, 12);
            does("a debtor", thing(DEBTOR, n, n), SHARES, 0, PARTED, 12);
            does("a shift", thing(SHIFT, n, n), SHARES, MIN, PARTED, 12);
            does("a baker", thing(BAKER, n, n), SHARES, 3, PARTED, 40, 12);
        }
        does("by 1", thing(LOVER, 5, 6), SHARES, 9, 9, 12);
        does("by -1", thing(LOVER, 6, 5), SHARES, 9, -9, 12);
        does("by 23", thing(LOVER, 0, 23), SHARES, -24, -1, 12);
        does("by 23, less than 1", thing(LOVER, 0, 23), SHARES, -22, 0, 12);
        does("by -6", thing(LOVER, 6, 0), SHARES, -13, 2, 12);
        does("-15 that isn't parted", thing(LOVER, 0, 1), SHARES, -15, -15, 12);
    }

    private static void partedInside() {
        Edge.of(PART, "that is all that act() answers then");
        // what stands ahead in the sum, or behind it, counts nothing
        does("a shift tells", thing(SHIFT, 2, 2), TELLS, 100, PARTED, 51, 13, 30, 11, 50, 10, 12);
        does("a sleeper shares", thing(SLEEPER, 2, 2), SHARES, 100, PARTED, 61, 40, 12);
        HourByVote x = thing(SHIFT, 2, 2);
        x.act(0, TELLS, 100);
        does("the next ACT is as ever", x, WISHES, 5, 6, 50, 10);
        x.change(2, 1, 3);
        does("with another WANT", x, TELLS, 5, ((7 - 2 ^ 2) ^ 3) + 3, 51, 13, 30, 11, 50, 10, 12);
    }

    private static void leftFirst() {
        Edge.of(PART, "numbers of the bodies that ran in the latest act(), as they began (left first)");
        does("super.tells(x) ahead of shares(a)", thing(SHIFT, 0, 2), TELLS, 1, 1, 51, 13, 30, 11, 50, 10, 12);
        does("super.shares(x) ahead of wishes(n)", thing(SLEEPER, 0, 2), SHARES, 9, 1, 61, 40, 12, 10);
    }

    private static void latestAct() {
        Edge.of(PART, "numbers of the bodies that ran in the latest act()");
        HourByVote x = thing(SHIFT, 0, 2);
        x.act(0, TELLS, 1);
        does("a shorter one", x, WISHES, 1, 2, 50, 10);
        x.act(0, 4, 1);
        Edge.due("none behind a refusal", x.many(6), 0);
        Edge.due("none at first", new HourByVote().trace(0), NONE);
    }

    private static void thirty() {
        Edge.of(PART, "the first 30 are kept.");
        // no ACT has more bodies than a shift's tells
        HourByVote x = thing(SHIFT, 0, 2);
        for (int i = 0; i < 40; i++) {
            x.act(0, TELLS, i);
            Edge.due("as many each time", x.many(6), 7);
        }
        Edge.due("the last one", x.trace(6), 12);
        Edge.due("one more", x.trace(7), NONE);
        Edge.due("trace(29)", x.trace(29), NONE);
        Edge.due("trace(30)", x.trace(30), NONE);
    }

    private static void shelves() {
        Edge.of(PART, "SHELVES 0 to 3 hold a VOTER (by its number; nothing, if there is no such one at the time), a SHEET's row, or nothing (at first).");
        HourByVote x = new HourByVote();
        x.voter(1, 0, 1, 0);
        for (int s = 0; s <= 3; s++) {
            Edge.due("nothing at first, for a VOTER", x.taken(s, 0), NOTHING);
            Edge.due("nothing at first, for a row", x.taken(s, 10), NOTHING);
            Edge.due("a VOTER", x.shelf(s, 0, 0), 1);
            Edge.due("it", x.taken(s, 1), 0);
        }
        Edge.due("no SHELF 4", x.shelf(4, 0, 0), BAD);
        Edge.due("no SHELF -1", x.shelf(-1, 0, 0), BAD);
    }

    private static void shelvesOfNobody() {
        Edge.of(PART, "(by its number; nothing, if there is no such one at the time)");
        HourByVote x = new HourByVote();
        x.voter(1, 3, 1, 0);
        x.keep();
        x.voter(2, 4, 1, 0);
        x.shelf(0, 0, 1);
        x.shelf(1, 0, 0);
        x.again();
        Edge.due("no such one: taken(0, 0)", x.taken(0, 0), NOTHING);
        Edge.due("no such one: taken(0, 10)", x.taken(0, 10), NOTHING);
        Edge.due("no such one: act(0, 0, 5)", x.act(0, 0, 5), 0);
        Edge.due("no TRACE", x.many(6), 0);
        Edge.due("the other one is there", x.taken(1, 1), 0);
        x.voter(5, 9, 1, 0);
        Edge.due("another one with that number", x.taken(0, 5), 1);
        does("another one with that number", x, SWAYS, 1, -9, 60, 11, 10);
        x.remake(1, 3);
        Edge.due("of another KIND", x.taken(0, 3), 1);
        Edge.due("not of the one it was", x.taken(0, 5), OTHER);
        x.change(1, 1, 0);
        does("with another WANT", x, WISHES, 1, 0, 50, 10);
    }

    private static void shelf() {
        Edge.of("Promise 44", "A SHELF holds VOTER n (what 0), the row of SHEET n (1; nothing, if missing), nothing (2): 1.");
        HourByVote x = thing(LOVER, 6, 0);
        x.sheet(0, 0, 0);
        x.sheet(3, 3, 40);
        Edge.due("the first VOTER", x.shelf(3, 0, 0) + x.taken(3, 0), 1);
        Edge.due("the last VOTER", x.shelf(3, 0, 6) + x.taken(3, 0), 7);
        Edge.due("the first SHEET, an empty row", x.shelf(3, 1, 0) + x.taken(3, 10), 1);
        Edge.due("the last SHEET, a full row", x.shelf(3, 1, 3) + x.taken(3, 13), 41);
        Edge.due("a SHEET that is missing", x.shelf(3, 1, 1), 1);
        Edge.due("nothing then", x.taken(3, 10), NOTHING);
        for (int n : new int[] {0, 7, -1, MIN, MAX}) {
            x.shelf(3, 0, 0);
            Edge.due("nothing: shelf(3, 2, " + n + ")", x.shelf(3, 2, n), 1);
            Edge.due("nothing then", x.taken(3, 0), NOTHING);
        }
    }

    private static void shelfOfARow() {
        Edge.of("Promise 44", "the row of SHEET n (1; nothing, if missing)");
        HourByVote x = new HourByVote();
        x.sheet(0, 2, 9);
        x.shelf(0, 1, 0);
        x.sheet(0, 1, 4);
        Edge.due("that row, though the SHEET became another", x.taken(0, 12), 9);
        x.shelf(1, 1, 0);
        x.sheet(0, -1, 0);
        Edge.due("that row, though the SHEET is missing", x.taken(1, 11), 4);
        x.shelf(2, 1, 0);
        x.sheet(0, 0, 5);
        Edge.due("nothing, though the SHEET came behind it", x.taken(2, 10), NOTHING);
    }

    private static void shelfRefused() {
        Edge.of("Promise 44", "BAD: no such SHELF, what, thing.");
        Twins.off("shelf(shelf, 2, 0)", (x, v) -> x.shelf(v, 2, 0), 0, 3, BAD);
        Twins.off("shelf(0, what, 0)", (x, v) -> x.shelf(0, v, 0), 0, 2, BAD);
        Twins.off("shelf(1, 0, n)", (x, v) -> x.shelf(1, 0, v), 0, 6, BAD);
        Twins.off("shelf(1, 1, n)", (x, v) -> x.shelf(1, 1, v), 0, 3, BAD);
        Twins.same("one more than there are", x -> x.shelf(1, 0, 3), BAD, Twins::told);
        Twins.same("nobody", x -> x.shelf(1, 0, 0), BAD, Twins::empty);
    }

    private static void taken() {
        Edge.of("Promise 45", "What a SHELF holds taken for a thing of KIND as (0 to 5, or one under it): its number");
        int[] above = {0, 1 | 2, 1 | 4, 1 | 4 | 8, 1 | 16, 1 | 16 | 32};
        for (int kind = 1; kind <= 5; kind++) {
            HourByVote x = thing(kind, 6, 0);
            for (int as = 0; as <= 5; as++) {
                Edge.due("KIND " + kind + " for " + as, x.taken(0, as), (above[kind] >> as & 1) == 1 ? 6 : OTHER);
            }
            for (int as = 10; as <= 14; as++) {
                Edge.due("KIND " + kind + " for a row, " + as, x.taken(0, as), OTHER);
            }
        }
    }

    private static void takenRow() {
        Edge.of("Promise 45", "for a row of sort as - 10 (as 10 to 14): how many items.");
        HourByVote x = new HourByVote();
        for (int sort = 0; sort <= 4; sort++) {
            for (int n : new int[] {0, 1, 40}) {
                x.sheet(2, sort, n);
                x.shelf(3, 1, 2);
                for (int as = 10; as <= 14; as++) {
                    Edge.due(n + " of sort " + sort + " for " + as, x.taken(3, as), as == sort + 10 ? n : OTHER);
                }
                Edge.due("a row for a VOTER", x.taken(3, 0), OTHER);
                Edge.due("a row for a sleeper", x.taken(3, 5), OTHER);
            }
        }
    }

    private static void takenRefused() {
        Edge.of("Promise 45", "BAD: no such SHELF, as; -13; -11.");
        Twins.off("taken(shelf, 0)", (x, v) -> x.taken(v, 0), 0, 3, BAD);
        Twins.off("taken(0, as)", (x, v) -> x.taken(0, v), 0, 14, BAD);
        for (int as = 6; as <= 9; as++) {
            int a = as;
            Twins.never("taken(1, " + a + ")", x -> x.taken(1, a), BAD);
        }
        for (int as : new int[] {0, 5, 10, 14}) {
            Twins.same("nothing: taken(3, " + as + ")", x -> x.taken(3, as), NOTHING, Twins::empty, Twins::told);
        }
        // told(): SHELF 1 holds a sleeper, SHELF 2 a row of shorts
        for (int as : new int[] {1, 2, 3, 10, 14}) {
            Twins.same("a sleeper: taken(1, " + as + ")", x -> x.taken(1, as), OTHER, Twins::told);
        }
        for (int as : new int[] {0, 5, 10, 12, 14}) {
            Twins.same("a row of shorts: taken(2, " + as + ")", x -> x.taken(2, as), OTHER, Twins::told);
        }
    }

    private static void act() {
        Edge.of("Promise 46", "An ACT (0 to 3) of the thing on a SHELF, with x.");
        HourByVote x = thing(LOVER, 1, 4);
        x.shelf(3, 0, 1);
        int[] due = {28, 27, 3, 27 ^ 4};
        for (int act = 0; act <= 3; act++) {
            Edge.due("of the first SHELF", x.act(0, act, 10), due[act]);
            Edge.due("of the last SHELF", x.act(3, act, 10), due[act]);
        }
        Edge.due("x is 0", x.act(0, 0, 0), 8);
        x.wakes(1, false);
        Edge.due("ASLEEP or not", x.act(0, 0, 0), 8);
        Edge.due("0 that is no refusal", x.act(0, 0, -4), 0);
        Edge.due("its TRACE", x.many(6), 2);
        for (int low = -1; low >= -15; low--) {
            Edge.due("as low as a refusal", x.act(0, 2, 3 * low), low);
        }
    }

    private static void actRefused() {
        Edge.of("Promise 46", "0, and no TRACE then: no such SHELF, act, nothing, a row.");
        int[][] bad = {
            {-1, 0}, {4, 0}, {MIN, 0}, {MAX, 0}, {0, -1}, {0, 4}, {0, MIN}, {0, MAX}, {1, 0}, {2, 0}, {3, 0}, {1, 9}, {9, 9}
        };
        for (int[] b : bad) {
            // SHELF 0: a lover; 1: a row; 2: nothing; 3: a VOTER that isn't there
            HourByVote x = thing(LOVER, 0, 4);
            x.sheet(0, 0, 3);
            x.shelf(1, 1, 0);
            x.keep();
            x.voter(1, 0, 1, 0);
            x.shelf(3, 0, 1);
            x.again();
            x.act(0, 3, 9);
            Edge.due("a TRACE ahead of it", x.many(6), 4);
            Edge.due("act(" + b[0] + ", " + b[1] + ", 9)", x.act(b[0], b[1], 9), 0);
            Edge.due("no TRACE: many(6)", x.many(6), 0);
            Edge.due("no TRACE: trace(0)", x.trace(0), NONE);
        }
    }

    private static void trace() {
        Edge.of("Promise 47", "THE TRACE's i-th body.");
        HourByVote x = thing(SHIFT, 0, 2);
        x.act(0, TELLS, 1);
        int[] due = {51, 13, 30, 11, 50, 10, 12};
        for (int i = 0; i < 7; i++) {
            Edge.due("trace(" + i + ")", x.trace(i), due[i]);
        }
        x.taken(0, 0);
        x.noon();
        x.remake(0, 1);
        Edge.due("it stays until the next act()", x.trace(6), 12);
    }

    private static void traceRefused() {
        Edge.of("Promise 47", "NONE.");
        Twins.off("trace(i)", (x, v) -> x.trace(v), 0, 29, NONE);
        Twins.same("no TRACE", x -> x.trace(0), NONE, Twins::empty);
        HourByVote x = thing(BAKER, 0, 2);
        x.act(0, SHARES, 1);
        Edge.due("the last one", x.trace(1), 12);
        Edge.due("one more", x.trace(2), NONE);
        x.act(0, WISHES, 1);
        Edge.due("one more than a shorter one has", x.trace(1), NONE);
    }

    private static void many() {
        Edge.of("Promise 48", "How many: what = 0 VOTERS, 1 RULES, 2 NOONS, 3 REPORTS, 4 ROWS, 5 bytes of THE TAPE, 6 bodies of THE TRACE (those kept, 30 at most).");
        HourByVote x = new HourByVote();
        for (int what = 0; what <= 6; what++) {
            Edge.due("of a new object: many(" + what + ")", x.many(what), 0);
        }
        for (int p = 0; p < 7; p++) {
            x.voter(3, 12, 9, 0);
        }
        Check.rules(x, "voter nil;".repeat(7) + "shift more 1;");
        Check.rules(x, "shift more 1;".repeat(8));
        Check.feed(x, " ".repeat(200));
        for (int r = 0; r < 6; r++) {
            x.report(r, r);
        }
        x.noon();
        x.noon();
        x.prove(6);
        x.shelf(0, 0, 0);
        x.act(0, TELLS, 0);
        int[] due = {7, 8, 2, 6, 4, 200, 7};
        for (int what = 0; what <= 6; what++) {
            Edge.due("of a full one: many(" + what + ")", x.many(what), due[what]);
        }
        x.rules();
        x.forget();
        x.prove(2);
        x.act(0, 4, 0);
        int[] less = {7, 0, 2, 0, 0, 0, 0};
        for (int what = 0; what <= 6; what++) {
            Edge.due("of one that forgot: many(" + what + ")", x.many(what), less[what]);
        }
    }

    private static void manyRefused() {
        Edge.of("Promise 48", "BAD: another what.");
        Twins.off("many(what)", (x, v) -> x.many(v), 0, 6, BAD);
    }
}
