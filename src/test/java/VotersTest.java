/** Promises 1 to 9: a new object, voters, the clock. */
public final class VotersTest {
    private VotersTest() {
    }

    public static void main(String[] args) {
        newObject();
        comesAndIsFull();
        refusesVoters();
        tellsOfVoters();
        votesRound();
        weighsByKind();
        changes();
        remakes();
        wakes();
        clockAndLimit();
        Check.end("VotersTest");
    }

    private static void newObject() {
        HourByVote x = new HourByVote();
        for (int what = 0; what <= 6; what++) {
            Check.due("1: many(" + what + ")", x.many(what), 0);
        }
        for (int what = 0; what <= 4; what++) {
            Check.due("1: state(" + what + ")", x.state(what), 0);
        }
        Check.due("1: again()", x.again(), HourByVote.NONE);
        Check.due("1: seed(5)", x.seed(5), 1);
        Check.due("1: voterOf(0, 0)", x.voterOf(0, 0), HourByVote.BAD);
        Check.due("1: taken(0, 0)", x.taken(0, 0), -11);
        Check.due("1: write(0, 0, 0)", x.write(0, 0, 0), -11);
    }

    private static void comesAndIsFull() {
        HourByVote x = new HourByVote();
        for (int p = 0; p < 7; p++) {
            Check.due("2: voter " + p, x.voter(1 + p % 5, p, 1 + p, p), p);
            Check.due("2: many(0)", x.many(0), p + 1);
        }
        Check.due("2: an eighth", x.voter(1, 0, 1, 0), HourByVote.FULL);
        Check.due("2: BAD ahead of FULL", x.voter(1, 24, 1, 0), HourByVote.BAD);
        Check.due("2: still seven", x.many(0), 7);
        Check.due("2: all awake", x.state(3), 127);
    }

    private static void refusesVoters() {
        HourByVote x = new HourByVote();
        int[][] bad = {
            {0, 0, 1, 0}, {6, 0, 1, 0}, {-1, 0, 1, 0}, {1, -1, 1, 0}, {1, 24, 1, 0},
            {1, 0, 0, 0}, {1, 0, 10, 0}, {1, 0, 1, -1}, {1, 0, 1, 100}, {Integer.MIN_VALUE, 0, 1, 0}
        };
        for (int[] v : bad) {
            Check.due("2: voter(" + v[0] + ", " + v[1] + ", " + v[2] + ", " + v[3] + ")",
                x.voter(v[0], v[1], v[2], v[3]), HourByVote.BAD);
        }
        Check.due("2: none came", x.many(0), 0);
        Check.due("2: the least", x.voter(1, 0, 1, 0), 0);
        Check.due("2: the most", x.voter(5, 23, 9, 99), 1);
    }

    private static void tellsOfVoters() {
        HourByVote x = new HourByVote();
        x.voter(2, 13, 4, 55);
        x.voter(4, 0, 7, 99);
        int[][] due = {{2, 13, 4, 55, 1, 2, 4}, {4, 0, 7, 99, 1, 1, 3}};
        for (int p = 0; p < 2; p++) {
            x.clock(p == 0 ? 5 : 0);
            for (int what = 0; what <= 6; what++) {
                Check.due("3: voterOf(" + p + ", " + what + ")", x.voterOf(p, what), due[p][what]);
            }
        }
        x.wakes(1, false);
        Check.due("3: asleep", x.voterOf(1, 4), 0);
        x.clock(1);
        Check.due("3: an asleep one's VOTE", x.voterOf(1, 5), 0);
        Check.due("3: an asleep one's POWER", x.voterOf(1, 6), 3);
        for (int[] bad : new int[][] {{-1, 0}, {2, 0}, {7, 0}, {0, -1}, {0, 7}}) {
            Check.due("3: voterOf(" + bad[0] + ", " + bad[1] + ")", x.voterOf(bad[0], bad[1]), HourByVote.BAD);
        }
    }

    private static void votesRound() {
        HourByVote x = new HourByVote();
        x.voter(1, 3, 1, 0);
        for (int hour = 0; hour < 24; hour++) {
            x.clock(hour);
            int ahead = (3 - hour + 24) % 24;
            int vote = ahead == 0 ? 0 : ahead <= 12 ? 1 : -1;
            Check.due("3: VOTE at " + hour, x.voterOf(0, 5), vote + 1);
        }
    }

    private static void weighsByKind() {
        HourByVote x = new HourByVote();
        for (int kind = 1; kind <= 5; kind++) {
            x.voter(kind, 0, 7, 0);
        }
        int[] hours = {0, 5, 6, 11, 12, 23};
        int[][] due = {
            {7, 7, 21, 3, 0}, {7, 7, 21, 3, 0}, {7, 7, 21, 3, 3}, {7, 7, 21, 3, 3}, {7, 9, 27, 3, 3}, {7, 9, 27, 3, 3}
        };
        for (int i = 0; i < hours.length; i++) {
            x.clock(hours[i]);
            for (int p = 0; p < 5; p++) {
                Check.due("3: POWER of KIND " + (p + 1) + " at " + hours[i], x.voterOf(p, 6), due[i][p]);
            }
        }
    }

    private static void changes() {
        HourByVote x = new HourByVote();
        x.voter(1, 4, 3, 10);
        Check.due("4: WANT", x.change(0, 1, 23), 4);
        Check.due("4: WEIGHT", x.change(0, 2, 9), 3);
        Check.due("4: PRICE", x.change(0, 3, 99), 10);
        Check.due("4: WANT again", x.change(0, 1, 0), 23);
        Check.due("4: WEIGHT again", x.change(0, 2, 1), 9);
        Check.due("4: PRICE again", x.change(0, 3, 0), 99);
        int[][] bad = {
            {0, 0, 1}, {0, 4, 1}, {-1, 1, 1}, {1, 1, 1}, {0, 1, 24}, {0, 1, -1}, {0, 2, 0}, {0, 2, 10}, {0, 3, -1}, {0, 3, 100}
        };
        for (int[] c : bad) {
            Check.due("4: change(" + c[0] + ", " + c[1] + ", " + c[2] + ")", x.change(c[0], c[1], c[2]), HourByVote.BAD);
        }
        Check.due("4: WANT stays", x.voterOf(0, 1), 0);
        Check.due("4: WEIGHT stays", x.voterOf(0, 2), 1);
        Check.due("4: PRICE stays", x.voterOf(0, 3), 0);
        x.clock(20);
        Check.due("4: SUM ahead", x.sum(), 1);
        x.change(0, 1, 19);
        x.change(0, 2, 6);
        Check.due("4: SUM behind it", x.sum(), -6);
    }

    private static void remakes() {
        HourByVote x = new HourByVote();
        x.voter(1, 20, 5, 1);
        x.wakes(0, false);
        x.clock(13);
        Check.due("5: to debtor", x.remake(0, 2), 1);
        Check.due("5: POWER", x.voterOf(0, 6), 7);
        Check.due("5: to shift", x.remake(0, 3), 2);
        Check.due("5: POWER", x.voterOf(0, 6), 21);
        Check.due("5: still ASLEEP", x.sum(), 0);
        x.wakes(0, true);
        Check.due("5: SUM", x.sum(), 21);
        Check.due("5: to baker", x.remake(0, 4), 3);
        Check.due("5: SUM", x.sum(), 2);
        for (int[] bad : new int[][] {{0, 0}, {0, 6}, {0, -1}, {1, 1}, {-1, 1}}) {
            Check.due("5: remake(" + bad[0] + ", " + bad[1] + ")", x.remake(bad[0], bad[1]), HourByVote.BAD);
        }
        Check.due("5: KIND stays", x.voterOf(0, 0), 4);
    }

    private static void wakes() {
        HourByVote x = new HourByVote();
        x.voter(1, 4, 3, 10);
        x.voter(1, 4, 3, 10);
        Check.due("6: awake to awake", x.wakes(1, true), 1);
        Check.due("6: awake to ASLEEP", x.wakes(1, false), 1);
        Check.due("6: set", x.state(3), 1);
        Check.due("6: ASLEEP to ASLEEP", x.wakes(1, false), 0);
        Check.due("6: SUM of one", x.sum(), 3);
        Check.due("6: ASLEEP to awake", x.wakes(1, true), 0);
        Check.due("6: set", x.state(3), 3);
        Check.due("6: SUM of both", x.sum(), 6);
        Check.due("6: wakes(2)", x.wakes(2, true), HourByVote.BAD);
        Check.due("6: wakes(-1)", x.wakes(-1, false), HourByVote.BAD);
        Check.due("6: set stays", x.state(3), 3);
    }

    private static void clockAndLimit() {
        HourByVote x = new HourByVote();
        x.voter(1, 4, 3, 10);
        x.noon();
        Check.due("7: clock(23)", x.clock(23), 1);
        Check.due("7: LAG stays", x.state(4), 1);
        Check.due("7: NOONS stay", x.state(1), 1);
        Check.due("7: clock(24)", x.clock(24), HourByVote.BAD);
        Check.due("7: clock(-1)", x.clock(-1), HourByVote.BAD);
        Check.due("7: clock(0)", x.clock(0), 23);
        Check.due("8: limit(99)", x.limit(99), 0);
        Check.due("8: limit(100)", x.limit(100), HourByVote.BAD);
        Check.due("8: limit(-1)", x.limit(-1), HourByVote.BAD);
        Check.due("9: LIMIT", x.state(2), 99);
        Check.due("8: limit(3)", x.limit(3), 99);
        Check.due("8: SUM is not above LIMIT", x.noon(), 0);
        x.limit(2);
        Check.due("8: SUM is above LIMIT", x.noon(), 1);
        Check.due("9: HOUR", x.state(0), 1);
        Check.due("9: NOONS", x.state(1), 3);
        Check.due("9: awake", x.state(3), 1);
        Check.due("9: LAG", x.state(4), 2);
        Check.due("9: state(5)", x.state(5), HourByVote.BAD);
        Check.due("9: state(-1)", x.state(-1), HourByVote.BAD);
    }
}
