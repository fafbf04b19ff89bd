import java.util.ArrayList;
import java.util.List;
import java.util.function.Consumer;
import java.util.function.ToIntBiFunction;
import java.util.function.ToIntFunction;

/** Two objects with one history: a call that changes nothing leaves them alike in all that can be asked. */
final class Twins {
    private static final String EIGHT = "lover if hour < 9 more 1; debtor if want > 12 and not awake = 7 less 1;"
        + "shift if (number=2 or 1=2) nil; baker more 3; sleeper if weight<4 more 9; voter if 1>2 nil; voter more 0;"
        + "lover nil;";

    private Twins() {
    }

    /** Nothing came yet. */
    static void empty(HourByVote x) {
    }

    /** Something of all but THE TAPE, and room for more. */
    static void some(HourByVote x) {
        x.voter(1, 20, 3, 10);
        x.voter(5, 9, 8, 4);
        x.voter(2, 3, 2, 7);
        Check.rules(x, "lover more 2; baker if hour > 6 less 1;");
        x.clock(8);
        x.seed(77);
        x.keep();
        x.noon();
        x.lot();
        x.wakes(2, false);
        x.report(3, 4);
        x.report(9, 11);
        x.prove((x.state(0) + 1) % 24);
        x.sheet(0, 0, 3);
        x.write(0, 1, 1);
        x.write(0, 2, 4);
        x.sheet(1, 1, 2);
        x.write(1, 0, 300);
        x.shelf(1, 0, 1);
        x.shelf(2, 1, 1);
        x.act(1, 3, 5);
    }

    /** As some(), and a right TEXT on THE TAPE. */
    static void told(HourByVote x) {
        some(x);
        Check.feed(x, "debtor nil;");
    }

    /** All is full: VOTERS, RULES, REPORTS, THE TAPE. */
    static void full(HourByVote x) {
        for (int p = 0; p < 7; p++) {
            x.voter(1 + p % 5, (7 * p + 2) % 24, 1 + p, 3 * p);
        }
        Check.rules(x, EIGHT);
        x.clock(23);
        x.limit(2);
        x.keep();
        x.noon();
        x.noon();
        x.seed(-5);
        x.lot();
        x.wakes(3, false);
        x.change(0, 1, 14);
        for (int r = 0; r < 6; r++) {
            x.report(10 * r, (9 * r + 4) % 24);
        }
        x.prove((x.state(0) + 22) % 24);
        x.alterRow(0, 1, 1000);
        for (int s = 0; s < 3; s++) {
            x.sheet(s, 2 + s, 4);
            x.write(s, 0, 70000 + s);
            x.write(s, 3, -1);
        }
        x.sheet(3, 0, 2);
        x.shelf(0, 0, 6);
        x.shelf(1, 1, 0);
        x.shelf(3, 0, 2);
        x.act(3, 3, 5);
        Check.feed(x, " ".repeat(188) + "voter nil; ;");
    }

    /** It answers what is due and leaves all as it was, behind each of the histories. */
    @SafeVarargs
    static void same(String call, ToIntFunction<HourByVote> asked, int due, Consumer<HourByVote>... histories) {
        for (Consumer<HourByVote> history : histories) {
            HourByVote one = made(history);
            Edge.due(call, asked.applyAsInt(one), due);
            alike(call, one, made(history));
        }
    }

    /** It is refused behind any history, and changes nothing. */
    static void never(String call, ToIntFunction<HourByVote> asked, int due) {
        same(call, asked, due, Twins::empty, Twins::told, Twins::full);
    }

    /** As never(), for numbers that are just too small, just too large, and as far off as there are. */
    static void off(String call, ToIntBiFunction<HourByVote, Integer> asked, int least, int most, int due) {
        for (int v : new int[] {Integer.MIN_VALUE, least - 1, most + 1, Integer.MAX_VALUE}) {
            never(call + " with " + v, x -> asked.applyAsInt(x, v), due);
        }
    }

    /** It leaves all as it was, whatever it answers. */
    @SafeVarargs
    static void asks(String call, ToIntFunction<HourByVote> asked, Consumer<HourByVote>... histories) {
        for (Consumer<HourByVote> history : histories) {
            HourByVote one = made(history);
            int first = asked.applyAsInt(one);
            Edge.due(call + ", asked again", asked.applyAsInt(one), first);
            alike(call, one, made(history));
        }
    }

    static void alike(String call, HourByVote one, HourByVote other) {
        List<Integer> got = allOf(one);
        List<Integer> want = allOf(other);
        int unlike = 0;
        for (int i = 0; i < want.size(); i++) {
            unlike += got.get(i).equals(want.get(i)) ? 0 : 1;
        }
        Edge.due(call + " changes nothing; answers unlike behind it", unlike, 0);
    }

    private static HourByVote made(Consumer<HourByVote> history) {
        HourByVote x = new HourByVote();
        history.accept(x);
        return x;
    }

    /** All that can be asked, some 350 calls; what changes the object comes last. */
    private static List<Integer> allOf(HourByVote x) {
        List<Integer> all = new ArrayList<>();
        land(x, all);
        things(x, all);
        all.add(x.rules());
        land(x, all);
        all.add(x.again());
        land(x, all);
        all.add(x.noon());
        return all;
    }

    private static void land(HourByVote x, List<Integer> all) {
        for (int what = 0; what <= 6; what++) {
            all.add(x.many(what));
            all.add(x.state(what));
            for (int p = 0; p < 7; p++) {
                all.add(x.voterOf(p, what));
            }
        }
        for (int hour : new int[] {0, 6, 12}) {
            int was = x.clock(hour);
            all.add(was);
            all.add(x.sum());
            x.clock(was);
        }
        for (int what = 0; what <= 2; what++) {
            all.add(x.span(what));
        }
        all.add(x.liar());
        int z = x.seed(1);
        x.seed(z);
        all.add(z);
    }

    private static void things(HourByVote x, List<Integer> all) {
        for (int k = 0; k <= 4; k++) {
            for (int what = 0; what <= 2; what++) {
                all.add(x.row(k, what));
            }
        }
        for (int s = 0; s <= 3; s++) {
            for (int sort = 0; sort <= 4; sort++) {
                for (int i : new int[] {0, 3}) {
                    all.add(x.item(s, sort, i));
                }
                all.add(x.taken(s, sort));
                all.add(x.taken(s, 10 + sort));
            }
            all.add(x.item(s, 0, 1) + 1000 * x.item(s, 0, 2));
        }
        for (int i = 0; i <= 7; i++) {
            all.add(x.trace(i));
        }
    }
}
