/** Promises 26 to 34: a game, reports, lots. */
public final class GameTest {
    private static final int NONE = HourByVote.NONE, BAD = HourByVote.BAD, FULL = HourByVote.FULL;

    private GameTest() {
    }

    public static void main(String[] args) {
        playsWithOne();
        playsAgainstMany();
        playsTheLeast();
        takesReports();
        spans();
        findsTheLiar();
        draws();
        goesByLot();
        countsOften();
        Check.end("GameTest");
    }

    private static void games(HourByVote x, int[] values, int[] acts) {
        for (int n = 1; n <= 4; n++) {
            Check.due("26: game(" + n + ")", x.game(n), values[n - 1]);
            Check.due("27: play(" + n + ")", x.play(n), acts[n - 1]);
        }
    }

    private static void playsWithOne() {
        HourByVote x = new HourByVote();
        for (int n : new int[] {-1, 0, 5}) {
            Check.due("26: game(" + n + ")", x.game(n), BAD);
            Check.due("27: play(" + n + ")", x.play(n), BAD);
        }
        games(x, new int[] {10, 10, 10, 10}, new int[] {0, 0, 0, 0});
        x.voter(1, 9, 3, 0);
        // it is awake at the NOONS of the first one, and put to sleep ahead of the other's
        games(x, new int[] {11, 11, 12, 12}, new int[] {0, 0, 0, 0});
        x.wakes(0, false);
        games(x, new int[] {11, 11, 12, 12}, new int[] {1, 1, 1, 1});
        x.change(0, 1, 20);
        // now it draws back: it sleeps at the NOONS of the first one
        games(x, new int[] {10, 9, 9, 8}, new int[] {0, 0, 0, 0});
        x.wakes(0, true);
        games(x, new int[] {10, 9, 9, 8}, new int[] {1, 1, 1, 1});
        Check.due("9: nothing changed", x.state(0) + x.state(1) + x.state(3), 1);
    }

    private static void playsAgainstMany() {
        HourByVote x = new HourByVote();
        x.voter(1, 20, 3, 0);
        x.voter(1, 20, 3, 0);
        x.voter(1, 20, 3, 0);
        games(x, new int[] {9, 8, 7, 6}, new int[] {0, 0, 0, 0});
        x.limit(6);
        // back only if all three are awake, so each time the other one wakes who was put to sleep
        games(x, new int[] {10, 9, 9, 8}, new int[] {1, 1, 1, 1});
    }

    private static void playsTheLeast() {
        HourByVote x = new HourByVote();
        x.voter(1, 9, 1, 0);
        x.voter(1, 20, 1, 0);
        x.voter(1, 20, 1, 0);
        // 1 ahead, 2 back: less one it stands, and no ACT makes it go ahead
        games(x, new int[] {10, 9, 9, 8}, new int[] {2, 2, 2, 2});
        x.change(0, 2, 2);
        // 2 ahead, 2 back: without one of those it goes ahead, which the other one can but half undo
        Check.due("26: game(1)", x.game(1), 11);
        Check.due("27: play(1)", x.play(1), 2);
        Check.due("26: game(2): the other one puts 0 to sleep", x.game(2), 10);
        Check.due("27: play(2)", x.play(2), 2);
    }

    private static void takesReports() {
        HourByVote x = new HourByVote();
        for (int[] bad : new int[][] {{-1, 0}, {61, 0}, {0, -1}, {0, 24}}) {
            Check.due("28: report(" + bad[0] + ", " + bad[1] + ")", x.report(bad[0], bad[1]), BAD);
        }
        for (int r = 0; r < 6; r++) {
            Check.due("28: number", x.report(r * 12, 23 - r), r);
            Check.due("48: many(3)", x.many(3), r + 1);
        }
        Check.due("28: a seventh", x.report(0, 0), FULL);
        Check.due("28: BAD ahead of FULL", x.report(0, 24), BAD);
        Check.due("29: there were six", x.forget(), 6);
        Check.due("29: there are none", x.forget(), 0);
        Check.due("29: many(3)", x.many(3), 0);
        Check.due("28: number 0 again", x.report(60, 0), 0);
    }

    private static void span(HourByVote x, int count, int step, int start) {
        Check.due("30: span(0)", x.span(0), count);
        Check.due("30: span(1)", x.span(1), step);
        Check.due("30: span(2)", x.span(2), start);
    }

    private static void spans() {
        HourByVote x = new HourByVote();
        Check.due("30: span(-1)", x.span(-1), BAD);
        Check.due("30: span(3)", x.span(3), BAD);
        span(x, 72, 0, 0);
        x.report(30, 4);
        // back from 34, so 10; ahead from -26, so 22
        span(x, 3, 0, 10);
        x.report(42, 16);
        // 12 NOONS between: 12 HOURS ahead are 12 back
        span(x, 2, 0, 10);
        x.report(43, 17);
        span(x, 1, 2, 22);
        x.report(43, 18);
        span(x, 0, NONE, NONE);
        x.forget();
        x.report(3, 7);
        x.report(9, 7);
        span(x, 1, 1, 7);
        x.forget();
        x.report(0, 7);
        x.report(48, 7);
        span(x, 3, 0, 7);
    }

    private static void findsTheLiar() {
        HourByVote x = new HourByVote();
        Check.due("31: no REPORT", x.liar(), NONE);
        x.report(5, 10);
        Check.due("31: some fit", x.liar(), NONE);
        x.report(6, 15);
        Check.due("31: without the least the other one fits", x.liar(), 0);
        x.report(7, 12);
        // ahead: 0 and 2; 1 is wrong
        Check.due("31: the one between", x.liar(), 1);
        x.report(8, 13);
        Check.due("31: still", x.liar(), 1);
        x.report(9, 1);
        Check.due("31: two are wrong", x.liar(), NONE);
        x.forget();
        x.report(0, 3);
        x.report(10, 3);
        x.report(20, 3);
        x.report(30, 4);
        Check.due("31: the last one", x.liar(), 3);
        x.report(40, 3);
        Check.due("31: not the last one", x.liar(), 3);
        int[][] alone = {{23, 22, 0}, {22, 21, 23}, {1, 2, 0}, {0, 1, 23}};
        for (int[] law : alone) {
            x.forget();
            x.report(1, law[0]);
            x.report(2, law[1]);
            Check.due("31: one LAW fits, from " + law[2], x.liar(), NONE);
            Check.due("30: one LAW fits, from " + law[2], x.span(2), law[2]);
            x.report(2, (law[1] + 12) % 24);
            Check.due("31: none fits", x.span(0), 0);
            Check.due("31: only without the third", x.liar(), 2);
        }
    }

    private static int next(int z) {
        return z * 1103515245 + 12345;
    }

    private static void draws() {
        HourByVote x = new HourByVote();
        Check.due("32: at first", x.seed(-7), 1);
        Check.due("32: as told", x.seed(Integer.MAX_VALUE), -7);
        Check.due("32: as told", x.seed(1), Integer.MAX_VALUE);
        Check.due("33: nobody draws", x.lot(), 0);
        Check.due("33: z stays", x.seed(1), 1);
        Check.due("33: a NOON", x.state(1), 1);
        x.voter(1, 9, 1, 0);
        x.voter(1, 9, 1, 0);
        x.wakes(0, false);
        x.lot();
        Check.due("33: one draws", x.seed(1), next(1));
        x.wakes(0, true);
        x.lot();
        Check.due("33: two draw", x.seed(1), next(next(1)));
    }

    private static void goesByLot() {
        HourByVote x = new HourByVote();
        x.voter(1, 9, 2, 0);
        x.voter(1, 20, 3, 0);
        x.voter(2, 18, 1, 0);
        Check.rules(x, "debtor if awake = 3 more 4;");
        int z = 77;
        int lag = 0;
        int[] seen = new int[3];
        x.seed(z);
        for (int i = 0; i < 60; i++) {
            x.clock(0);
            int sum = 0;
            int[] pulls = {2, -3, -5};
            for (int p = 0; p < 3; p++) {
                z = next(z);
                sum += (z >>> 16 & 1) * pulls[p];
            }
            int turn = Integer.signum(sum);
            seen[turn + 1]++;
            Check.due("33: lot()", x.lot(), (24 + turn) % 24);
            lag = (lag + 24 + turn) % 24;
            Check.due("33: LAG", x.state(4), lag);
            Check.due("33: NOONS", x.state(1), i + 1);
        }
        Check.due("33: all turns were seen", Math.min(seen[0], Math.min(seen[1], seen[2])) > 0 ? 1 : 0, 1);
        Check.due("33: who didn't come is awake", x.state(3), 7);
        x.limit(99);
        x.clock(0);
        Check.due("33: under LIMIT", x.lot(), 0);
    }

    private static void countsOften() {
        HourByVote x = new HourByVote();
        for (int[] bad : new int[][] {{0, 0}, {61, 0}, {-1, 0}, {1, 24}, {1, -1}}) {
            Check.due("34: often(" + bad[0] + ", " + bad[1] + ")", x.often(bad[0], bad[1]), BAD);
        }
        Check.due("34: nobody", x.often(60, 0), 60);
        x.voter(1, 9, 2, 0);
        x.clock(3);
        int z = 5;
        int ahead = 0;
        x.seed(5);
        for (int n = 1; n <= 60; n++) {
            z = next(z);
            ahead += z >>> 16 & 1;
            Check.due("34: often(" + n + ", 4)", x.often(n, 4), ahead);
            Check.due("34: often(" + n + ", 3)", x.often(n, 3), n - ahead);
            Check.due("34: often(" + n + ", 5)", x.often(n, 5), 0);
        }
        Check.due("34: all is as it was", x.state(0) * 100 + x.state(1), 300);
        Check.due("34: z, too", x.seed(1), 5);
    }
}
