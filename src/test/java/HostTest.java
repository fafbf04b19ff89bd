/** Promises 39 to 48: sheets, shelves, acts of things of kinds. */
public final class HostTest {
    private static final int NONE = HourByVote.NONE, BAD = HourByVote.BAD, STATE = HourByVote.STATE;
    private static final int NOTHING = -11, OUTSIDE = -12, OTHER = -13, BELOW = -14, PARTED = -15;

    private HostTest() {
    }

    public static void main(String[] args) {
        laysSheets();
        writesNarrowed();
        takesItems();
        goesAll();
        goesAllButWhatIsNone();
        wouldBe();
        holdsOnShelves();
        takesFromShelves();
        actsByKind();
        partsByNothing();
        wraps();
        refusesActs();
        counts();
        Check.end("HostTest");
    }

    private static void laysSheets() {
        HourByVote x = new HourByVote();
        for (int[] bad : new int[][] {{-1, 0, 1}, {4, 0, 1}, {0, -2, 1}, {0, 5, 1}, {0, 0, 41}, {4, 0, -1}, {0, 5, -1}, {4, -1, 0}}) {
            Check.due("39: sheet(" + bad[0] + ", " + bad[1] + ", " + bad[2] + ")", x.sheet(bad[0], bad[1], bad[2]), BAD);
        }
        Check.due("39: below 0", x.sheet(0, 0, -1), BELOW);
        Check.due("39: far below 0", x.sheet(0, 4, Integer.MIN_VALUE), BELOW);
        Check.due("41: still missing", x.item(0, 0, 0), NOTHING);
        for (int s = 0; s < 4; s++) {
            for (int sort = 0; sort <= 4; sort++) {
                laysForty(s, sort);
            }
        }
        x.sheet(2, 4, 40);
        x.write(2, 0, 1);
        x.sheet(1, 4, 40);
        x.write(1, 0, 1);
        Check.due("39: anew", x.sheet(2, 4, 40), 1);
        Check.due("39: all 0 again", x.item(2, 4, 0), 0);
        Check.due("39: the others stay", x.item(1, 4, 0), 1);
        Check.due("39: none of a sort", x.sheet(1, 2, 0), 1);
        Check.due("41: it has nothing", x.item(1, 2, 0), OUTSIDE);
        Check.due("39: missing, n counts nothing", x.sheet(1, -1, 99), 1);
        Check.due("41: missing", x.item(1, 2, 0), NOTHING);
        Check.due("39: missing, n counts nothing", x.sheet(1, -1, -99), 1);
    }

    private static void laysForty(int s, int sort) {
        HourByVote x = new HourByVote();
        Check.due("39: 40 of a sort", x.sheet(s, sort, 40), 1);
        for (int i = 0; i < 40; i++) {
            Check.due("39: all 0", x.item(s, sort, i), 0);
            x.write(s, i, 1 + i);
        }
        Check.due("39: 40 and no more", x.item(s, sort, 40), OUTSIDE);
    }

    private static void writesNarrowed() {
        HourByVote x = new HourByVote();
        int[] all = {
            0, 1, -1, 127, 128, 255, 256, -128, -129, 32767, 32768, 65536, -32769, 0x12345678, Integer.MAX_VALUE, Integer.MIN_VALUE
        };
        for (int sort = 0; sort <= 4; sort++) {
            x.sheet(sort % 4, sort, 3);
            for (int v : all) {
                int due = sort == 0 ? (byte) v : sort == 1 ? (short) v : sort == 4 ? v == 0 ? 0 : 1 : v;
                Check.due("40: " + v + " to sort " + sort, x.write(sort % 4, 2, v), 1);
                Check.due("41: " + v + " of sort " + sort, x.item(sort % 4, sort, 2), due);
            }
            Check.due("41: the one ahead", x.item(sort % 4, sort, 1), 0);
        }
        Check.due("40: no such SHEET", x.write(4, 0, 0), BAD);
        Check.due("40: no such SHEET", x.write(-1, 0, 0), BAD);
        Check.due("40: outside", x.write(1, 3, 0), OUTSIDE);
        Check.due("40: outside", x.write(1, -1, 0), OUTSIDE);
        Check.due("40: outside", x.write(1, Integer.MAX_VALUE, 0), OUTSIDE);
        x.sheet(1, -1, 0);
        Check.due("40: missing, ahead of outside", x.write(1, -1, 0), NOTHING);
    }

    private static void takesItems() {
        HourByVote x = new HourByVote();
        for (int sort = 0; sort <= 4; sort++) {
            x.sheet(0, sort, 2);
            for (int as = 0; as <= 4; as++) {
                Check.due("41: " + sort + " taken for " + as, x.item(0, as, 1), as == sort ? 0 : OTHER);
                Check.due("41: " + sort + " taken for " + as + ", outside", x.item(0, as, 2), as == sort ? OUTSIDE : OTHER);
            }
        }
        for (int[] bad : new int[][] {{-1, 0}, {4, 0}, {0, -1}, {0, 5}, {1, 5}}) {
            Check.due("41: item(" + bad[0] + ", " + bad[1] + ", 0)", x.item(bad[0], bad[1], 0), BAD);
        }
        Check.due("41: missing", x.item(1, 0, -1), NOTHING);
        Check.due("41: below 0", x.item(0, 4, -1), OUTSIDE);
    }

    private static HourByVote two() {
        HourByVote x = new HourByVote();
        x.voter(1, 5, 3, 0);
        x.voter(1, 20, 3, 0);
        return x;
    }

    private static void write(HourByVote x, int... items) {
        x.sheet(0, 0, items.length);
        for (int i = 0; i < items.length; i++) {
            x.write(0, i, items[i]);
        }
    }

    private static void refusesItems(HourByVote x) {
        x.sheet(1, 1, 3);
        int[][] due = {
            {-1, 0, 1, BAD}, {4, 0, 1, BAD}, {0, 0, 21, BAD}, {0, 0, -1, BAD}, {1, 0, 21, BAD}, {1, 0, 1, OTHER}, {1, 9, 1, OTHER},
            {2, 0, 1, NOTHING}, {2, 9, 1, NOTHING}, {0, -1, 1, OUTSIDE}, {0, 4, 1, OUTSIDE}, {0, Integer.MAX_VALUE, 2, OUTSIDE}
        };
        for (int[] d : due) {
            String args = "(" + d[0] + ", " + d[1] + ", " + d[2] + ")";
            Check.due("42: goAll" + args, x.goAll(d[0], d[1], d[2]), d[3]);
            Check.due("43: wouldBe" + args, x.wouldBe(d[0], d[1], d[2]), d[3]);
        }
        x.sheet(3, 0, 1);
        Check.due("42: the last SHEET, outside", x.goAll(3, 1, 1), OUTSIDE);
        Check.due("43: the last SHEET", x.wouldBe(3, 0, 1), x.on(1) + (x.sum() != 0 ? 100 : 0));
        Check.due("42: none of them", x.goAll(0, 9, 0), 0);
        Check.due("42: no NOON", x.state(1), 0);
    }

    private static void goesAll() {
        HourByVote x = two();
        write(x, 0, 1, 1, 2);
        refusesItems(x);
        // both: 0; 1 sleeps: -3, to 23; 1 wakes: 3 - 3; 2 sleeps: 3, to 0
        Check.due("42: twice SUM isn't 0", x.goAll(0, 0, 4), 2);
        Check.due("42: the HOUR", x.state(0), 0);
        Check.due("42: NOONS", x.state(1), 4);
        Check.due("42: who is awake", x.state(3), 1);
        Check.due("42: LAG", x.state(4), 0);
        Check.due("42: from item 3 on: 2 wakes", x.goAll(0, 3, 1), 0);
        Check.due("42: who is awake", x.state(3), 3);
        Check.due("42: beyond the end", x.goAll(0, 3, 2), OUTSIDE);
        Check.due("42: what stood ahead was done", x.state(3), 1);
        Check.due("42: what stood ahead was done", x.state(0) * 10 + x.state(1), 16);
        Check.due("42: below the start", x.goAll(0, -1, 3), OUTSIDE);
        Check.due("42: nothing stood ahead", x.state(1), 6);
        x.limit(9);
        write(x, 0);
        Check.due("42: SUM isn't 0, but not above LIMIT", x.goAll(0, 0, 1), 1);
        Check.due("42: it stood", x.state(0), 1);
    }

    private static void goesAllButWhatIsNone() {
        HourByVote x = two();
        write(x, 3, -1, 2, 100, 255, 256);
        Check.due("42: only 2, and 256 as 0", x.goAll(0, 0, 6), 2);
        Check.due("42: two NOONS", x.state(1), 2);
        Check.due("42: the HOUR", x.state(0), 2);
        Check.due("42: 20 items", x.sheet(0, 0, 20) + x.goAll(0, 0, 20), 1 + 3);
        Check.due("42: two and 20", x.state(1), 22);
    }

    private static void wouldBe() {
        HourByVote x = two();
        write(x, 0, 1, 1, 2, 3);
        x.clock(8);
        // at 8 who wants 5 draws back, who wants 20 ahead
        Check.due("43: none", x.wouldBe(0, 0, 0), 8);
        Check.due("43: SUM is 0", x.wouldBe(0, 0, 1), 8);
        Check.due("43: 1 sleeps", x.wouldBe(0, 0, 2), 109);
        Check.due("43: 1 wakes", x.wouldBe(0, 0, 3), 109);
        Check.due("43: 2 sleeps", x.wouldBe(0, 0, 4), 208);
        Check.due("43: from item 1 on", x.wouldBe(0, 1, 1), 109);
        Check.due("43: 3 is no ACT", x.wouldBe(0, 0, 5), STATE);
        Check.due("43: no ACT comes ahead of outside", x.wouldBe(0, 3, 9), STATE);
        x.write(0, 4, 0);
        Check.due("43: outside", x.wouldBe(0, 3, 9), OUTSIDE);
        x.write(0, 0, -1);
        Check.due("43: outside comes ahead of no ACT", x.wouldBe(0, -1, 2), OUTSIDE);
        Check.due("43: below 0", x.wouldBe(0, 0, 1), STATE);
        Check.due("43: nothing changed", x.state(0) * 1000 + x.state(1) * 100 + x.state(3) * 10 + x.state(4), 8030);
        Check.due("42: as foretold", x.wouldBe(0, 1, 4), x.goAll(0, 1, 4) * 100 + x.state(0));
    }

    private static void holdsOnShelves() {
        HourByVote x = two();
        x.sheet(1, 3, 7);
        int[][] bad = {
            {-1, 0, 0}, {4, 0, 0}, {0, -1, 0}, {0, 3, 0}, {0, 0, 2}, {0, 0, -1}, {0, 1, 4}, {0, 1, -1}, {4, 2, 0}
        };
        x.shelf(0, 0, 1);
        for (int[] b : bad) {
            Check.due("44: shelf(" + b[0] + ", " + b[1] + ", " + b[2] + ")", x.shelf(b[0], b[1], b[2]), BAD);
        }
        Check.due("44: what it held", x.taken(0, 0), 1);
        Check.due("44: another VOTER", x.shelf(0, 0, 0), 1);
        Check.due("44: it", x.taken(0, 0), 0);
        Check.due("44: a row", x.shelf(3, 1, 1), 1);
        Check.due("44: it", x.taken(3, 13), 7);
        Check.due("44: the others hold nothing", x.taken(1, 0) + x.taken(2, 13), 2 * NOTHING);
        Check.due("44: nothing", x.shelf(0, 2, 99), 1);
        Check.due("44: it", x.taken(0, 0), NOTHING);
        Check.due("44: a SHEET that is missing", x.shelf(3, 1, 2), 1);
        Check.due("44: so nothing", x.taken(3, 13), NOTHING);
        x.sheet(3, 4, 9);
        Check.due("44: the last SHEET", x.shelf(3, 1, 3), 1);
        Check.due("44: it", x.taken(3, 14), 9);
        Check.due("44: a VOTER in its place", x.shelf(3, 0, 1), 1);
        Check.due("46: on the last SHELF", x.act(3, 0, 4), 48);
        x.shelf(2, 1, 1);
        x.sheet(1, 0, 3);
        Check.due("44: the row, though the SHEET is another", x.taken(2, 13), 7);
        x.sheet(1, -1, 0);
        Check.due("44: the row, though the SHEET is missing", x.taken(2, 13), 7);
    }

    private static void takesFromShelves() {
        HourByVote x = new HourByVote();
        boolean[][] is = {
            {true, true, false, false, false, false}, {true, false, true, false, false, false}, {true, false, true, true, false, false},
            {true, false, false, false, true, false}, {true, false, false, false, true, true}
        };
        for (int p = 0; p < 5; p++) {
            x.voter(p + 1, 0, 1, 0);
            x.shelf(1, 0, p);
            for (int as = 0; as <= 5; as++) {
                Check.due("45: KIND " + (p + 1) + " for " + as, x.taken(1, as), is[p][as] ? p : OTHER);
            }
            for (int as = 10; as <= 14; as++) {
                Check.due("45: a VOTER for a row", x.taken(1, as), OTHER);
            }
        }
        for (int sort = 0; sort <= 4; sort++) {
            x.sheet(0, sort, sort * 10);
            x.shelf(2, 1, 0);
            for (int as = 10; as <= 14; as++) {
                Check.due("45: sort " + sort + " for " + as, x.taken(2, as), as - 10 == sort ? sort * 10 : OTHER);
            }
            Check.due("45: a row for a VOTER", x.taken(2, 0), OTHER);
        }
        for (int[] bad : new int[][] {{-1, 0}, {4, 0}, {1, -1}, {1, 6}, {1, 9}, {1, 15}, {0, 6}}) {
            Check.due("45: taken(" + bad[0] + ", " + bad[1] + ")", x.taken(bad[0], bad[1]), BAD);
        }
        Check.due("45: nothing, as a row", x.taken(0, 10), NOTHING);
        x.remake(4, 1);
        Check.due("45: by its KIND at the time", x.taken(1, 1), 4);
        Check.due("45: not by what it was", x.taken(1, 5), OTHER);
    }

    private static void acts(HourByVote x, int act, int arg, int due, int... bodies) {
        Check.due("46: act(" + act + ", " + arg + ") of KIND " + x.voterOf(x.taken(0, 0), 0), x.act(0, act, arg), due);
        for (int i = 0; i < bodies.length; i++) {
            Check.due("47: trace(" + i + ")", x.trace(i), bodies[i]);
        }
        Check.due("47: no more", x.trace(bodies.length), NONE);
        Check.due("48: many(6)", x.many(6), bodies.length);
    }

    private static void actsByKind() {
        HourByVote x = new HourByVote();
        x.voter(1, 0, 1, 0);
        x.voter(1, 0, 1, 0);
        x.voter(1, 9, 1, 0);
        x.shelf(0, 0, 2);
        // n 2, a 9
        acts(x, 0, 10, 38, 20, 10);
        acts(x, 1, 10, 36, 11, 20, 10);
        acts(x, 2, 22, 3, 12);
        acts(x, 2, -22, -3, 12);
        acts(x, 3, 10, 36 ^ 9, 13, 11, 20, 10);
        x.remake(2, 2);
        acts(x, 0, 10, 19, 10);
        acts(x, 1, 10, 17 ^ 2, 30, 11, 10);
        acts(x, 2, 22, 3, 12);
        acts(x, 3, 10, (17 ^ 2) ^ 9, 13, 30, 11, 10);
        acts(x, 1, 11, 16, 30, 11, 10);
        acts(x, 3, 11, 16 ^ 9, 13, 30, 11, 10);
        acts(x, 3, 2, 11 ^ 9, 13, 30, 11, 10);
        x.remake(2, 3);
        acts(x, 0, 10, 18, 50, 10);
        acts(x, 1, 10, 16 ^ 2, 30, 11, 50, 10);
        acts(x, 2, 22, 3, 12);
        acts(x, 3, 10, ((16 ^ 2) ^ 9) + 9 / 7, 51, 13, 30, 11, 50, 10, 12);
        x.remake(2, 4);
        acts(x, 0, 10, 19, 10);
        acts(x, 1, 10, 17, 11, 10);
        acts(x, 2, 24, 3, 40, 12);
        acts(x, 2, 23, 2, 40, 12);
        acts(x, 3, 10, 17 ^ 9, 13, 11, 10);
        x.remake(2, 5);
        acts(x, 0, 10, 19, 10);
        acts(x, 1, 10, -17, 60, 11, 10);
        acts(x, 2, 24, 3 - 11, 61, 40, 12, 10);
        acts(x, 3, 10, -17 ^ 9, 13, 60, 11, 10);
        x.change(2, 1, 0);
        acts(x, 2, 24, -10 - 2, 61, 40, 12, 10);
    }

    private static void partsByNothing() {
        HourByVote x = new HourByVote();
        x.voter(1, 0, 1, 0);
        x.shelf(0, 0, 0);
        acts(x, 2, 5, PARTED, 12);
        acts(x, 0, 5, 10, 20, 10);
        x.remake(0, 4);
        acts(x, 2, 5, PARTED, 40, 12);
        x.remake(0, 5);
        acts(x, 2, 5, PARTED, 61, 40, 12);
        acts(x, 1, 15, -15, 60, 11, 10);
        x.remake(0, 3);
        acts(x, 2, 0, PARTED, 12);
        acts(x, 3, 5, PARTED, 51, 13, 30, 11, 50, 10, 12);
        x.change(0, 1, 1);
        acts(x, 3, 5, (5 ^ 1) + 1, 51, 13, 30, 11, 50, 10, 12);
    }

    private static void wraps() {
        HourByVote x = new HourByVote();
        x.voter(1, 5, 1, 0);
        x.voter(4, 0, 1, 0);
        x.shelf(0, 0, 0);
        acts(x, 0, Integer.MAX_VALUE, (Integer.MIN_VALUE + 4) * 2, 20, 10);
        x.shelf(0, 0, 1);
        // a - n is -1
        acts(x, 2, Integer.MIN_VALUE + 3, Integer.MIN_VALUE, 40, 12);
        acts(x, 2, Integer.MIN_VALUE, Integer.MIN_VALUE + 3, 40, 12);
        acts(x, 1, Integer.MIN_VALUE, Integer.MAX_VALUE, 11, 10);
    }

    private static void refusesActs() {
        HourByVote x = two();
        x.shelf(0, 0, 0);
        x.sheet(0, 0, 3);
        x.shelf(1, 1, 0);
        for (int[] bad : new int[][] {{-1, 0}, {4, 0}, {0, -1}, {0, 4}, {1, 0}, {2, 0}}) {
            x.act(0, 0, 9);
            Check.due("48: a TRACE", x.many(6), 2);
            Check.due("46: act(" + bad[0] + ", " + bad[1] + ", 9)", x.act(bad[0], bad[1], 9), 0);
            Check.due("46: no TRACE", x.many(6), 0);
            Check.due("47: no TRACE", x.trace(0), NONE);
        }
        x.act(0, 0, 9);
        Check.due("47: trace(-1)", x.trace(-1), NONE);
        Check.due("47: trace(2)", x.trace(2), NONE);
        Check.due("47: trace(30)", x.trace(30), NONE);
        x.taken(0, 0);
        x.noon();
        Check.due("47: it stays", x.trace(1), 10);
        HourByVote y = new HourByVote();
        y.keep();
        y.voter(1, 5, 3, 0);
        y.shelf(0, 0, 0);
        y.again();
        Check.due("46: there is no such VOTER at the time", y.act(0, 0, 9), 0);
        Check.due("45: there is no such VOTER at the time", y.taken(0, 0), NOTHING);
        y.voter(2, 7, 3, 0);
        Check.due("46: there is one again", y.act(0, 0, 9), 16);
        Check.due("45: there is one again", y.taken(0, 2), 0);
    }

    private static void counts() {
        HourByVote x = two();
        Check.rules(x, "lover nil; baker nil; shift nil;");
        x.noon();
        x.report(0, 0);
        x.feed(0, 5);
        x.shelf(0, 0, 0);
        x.act(0, 1, 0);
        x.prove(0);
        int[] due = {2, 3, 1, 1, 0, 5, 3};
        for (int what = 0; what <= 6; what++) {
            Check.due("48: many(" + what + ")", x.many(what), due[what]);
        }
        Check.due("48: many(7)", x.many(7), BAD);
        Check.due("48: many(-1)", x.many(-1), BAD);
    }
}
