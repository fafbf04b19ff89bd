import java.lang.reflect.Method;
import java.lang.reflect.Modifier;
import java.util.ArrayList;
import java.util.Comparator;
import java.util.List;
import java.util.Random;

/** All promises: runs of calls drawn from a fixed seed, answered by the class and by Model alike. */
public final class RandomRunsTest {
    // what an object answers behind its 512th call is free
    private static final int RUNS = 400, MOST_CALLS = 512;
    private static final String[] WORDS = {
        "voter", "lover", "debtor", "shift", "baker", "sleeper", "if", "and", "or", "not", "more", "less", "nil", "hour",
        "want", "weight", "awake", "number", "<", "=", ">", "(", ")", ";", "0", "7", "99", "100", "0012", "12345", "x", "?", " "
    };

    private final Random draw;
    private final List<Method> calls = new ArrayList<>();
    private final HourByVote real = new HourByVote();
    private final Model model = new Model();
    private final StringBuilder story = new StringBuilder();
    private int asked;

    private RandomRunsTest(int run) {
        draw = new Random(run);
        for (Method m : HourByVote.class.getDeclaredMethods()) {
            if (Modifier.isPublic(m.getModifiers())) {
                calls.add(m);
            }
        }
        calls.sort(Comparator.comparing(Method::getName));
    }

    public static void main(String[] args) throws ReflectiveOperationException {
        int runs = args.length > 0 ? Integer.parseInt(args[0]) : RUNS;
        int wrong = 0;
        for (int run = 0; run < runs && wrong < 5; run++) {
            RandomRunsTest test = new RandomRunsTest(run);
            if (!test.agrees()) {
                wrong++;
                System.out.println("run " + run + ":" + test.story);
            }
        }
        Check.due("RandomRunsTest: runs that went wrong", wrong, 0);
        Check.end("RandomRunsTest");
    }

    private boolean agrees() throws ReflectiveOperationException {
        boolean late = draw.nextInt(20) == 0;
        for (int p = draw.nextInt(late ? 3 : 8); p > 0; p--) {
            if (!asks("voter", 1 + draw.nextInt(5), draw.nextInt(24), 1 + draw.nextInt(9), draw.nextInt(20))) {
                return false;
            }
        }
        boolean fine = asks("clock", draw.nextInt(24)) && (!late || nearsTheLastNoon());
        while (fine && asked < MOST_CALLS) {
            fine = asksAny();
        }
        return fine;
    }

    private boolean nearsTheLastNoon() throws ReflectiveOperationException {
        boolean fine = asks("sheet", 0, 0, 20);
        for (int i = 0; i < 499 && fine; i++) {
            fine = asks("goAll", 0, 0, 20);
        }
        return fine && asks("goAll", 0, 1, 18 + draw.nextInt(2));
    }

    private boolean asksAny() throws ReflectiveOperationException {
        switch (draw.nextInt(24)) {
            case 0: return feeds(rulesText()) && asks("rules") && asks("many", 1);
            case 1: return feeds(spoilt(rulesText())) && asks("rules") && asks("many", 5);
            case 2: return actsFromSheet();
            case 3: return actsOnShelf();
            case 4: return altersRows();
            default:
        }
        Method m = calls.get(draw.nextInt(calls.size()));
        Object[] args = new Object[m.getParameterCount()];
        for (int i = 0; i < args.length; i++) {
            Class<?> type = m.getParameterTypes()[i];
            args[i] = type == boolean.class ? (Object) draw.nextBoolean() : type == long.class ? (Object) draw.nextLong() : (Object) number(m.getName(), i);
        }
        return asks(m.getName(), args);
    }

    private int number(String call, int i) {
        int odd = draw.nextInt(40);
        if (odd == 0) {
            return new int[] {Integer.MIN_VALUE, Integer.MAX_VALUE, -1, 1000, 128, 256}[draw.nextInt(6)];
        }
        boolean wide = List.of("on", "report", "limit", "often").contains(call) && i == 0;
        if (wide) {
            return call.equals("limit") ? draw.nextInt(draw.nextInt(4) == 0 ? 102 : 9) : draw.nextInt(63) - 1;
        }
        boolean hour = List.of("when", "fewest", "ith", "ways", "limitFor", "prove", "judge", "clock").contains(call) && i == 0
            || List.of("report", "often").contains(call) && i == 1;
        if (hour) {
            return draw.nextBoolean() ? (model.state(0) + draw.nextInt(9) + 20) % 24 : draw.nextInt(26) - 1;
        }
        return call.equals("change") && i == 2 ? draw.nextInt(26) - 1 : call.equals("play") || call.equals("game") || call.equals("ways") || call.equals("hours") ? draw.nextInt(5) : draw.nextInt(9) - 1;
    }

    private boolean actsFromSheet() throws ReflectiveOperationException {
        int s = draw.nextInt(4);
        int n = draw.nextInt(12);
        if (!asks("sheet", s, draw.nextInt(6) == 0 ? 1 : 0, n)) {
            return false;
        }
        for (int i = 0; i < n; i++) {
            if (!asks("write", s, i, draw.nextInt(8) == 0 ? draw.nextInt(600) - 300 : draw.nextInt(8))) {
                return false;
            }
        }
        int from = draw.nextInt(4) - (draw.nextInt(5) == 0 ? 1 : 0);
        int many = draw.nextInt(10) == 0 ? draw.nextInt(22) : draw.nextInt(6);
        return asks("wouldBe", s, from, many) && asks("goAll", s, from, many) && asks("item", s, 0, 2) && asks("state", 4);
    }

    private boolean actsOnShelf() throws ReflectiveOperationException {
        int s = draw.nextInt(4);
        int p = draw.nextInt(7);
        boolean fine = asks("shelf", s, 0, p) && (draw.nextInt(3) > 0 || asks("change", p, 1, p))
            && asks("act", s, draw.nextInt(4), draw.nextInt(5) == 0 ? draw.nextInt() : draw.nextInt(200) - 100);
        for (int i = 0; i < 9 && fine; i++) {
            fine = asks("trace", i);
        }
        return fine && asks("taken", s, draw.nextInt(7)) && asks("many", 6);
    }

    private boolean altersRows() throws ReflectiveOperationException {
        int hour = (model.state(0) + draw.nextInt(9) + 20) % 24;
        return asks("prove", hour) && asks("judge", hour) && asks("alterRow", draw.nextInt(4), draw.nextInt(3), draw.nextInt(24))
            && asks("judge", hour) && asks("row", draw.nextInt(4), draw.nextInt(3));
    }

    private boolean feeds(String text) throws ReflectiveOperationException {
        for (int from = 0; from < text.length(); from += 8) {
            int n = Math.min(8, text.length() - from);
            long eight = 0;
            for (int i = 0; i < n; i++) {
                eight |= (long) (text.charAt(from + i) & 255) << 8 * i;
            }
            if (!asks("feed", eight, n)) {
                return false;
            }
        }
        return true;
    }

    private String rulesText() {
        StringBuilder b = new StringBuilder();
        for (int r = draw.nextInt(draw.nextInt(5) == 0 ? 10 : 5); r > 0; r--) {
            b.append(WORDS[draw.nextInt(6)]).append(' ');
            if (draw.nextInt(3) > 0) {
                b.append("if ").append(condition(draw.nextInt(5))).append(' ');
            }
            int does = draw.nextInt(3);
            b.append(does == 0 ? "nil" : (does == 1 ? "more " : "less ") + draw.nextInt(draw.nextInt(3) == 0 ? 100 : 6)).append(';');
        }
        return b.toString();
    }

    private String condition(int depth) {
        int what = depth == 0 ? 0 : draw.nextInt(5);
        switch (what) {
            case 1: return condition(depth - 1) + " and " + condition(depth - 1);
            case 2: return condition(depth - 1) + " or " + condition(depth - 1);
            case 3: return "not " + condition(depth - 1);
            case 4: return "(" + condition(depth - 1) + ")";
            default: return value() + WORDS[18 + draw.nextInt(3)] + value();
        }
    }

    private String value() {
        return draw.nextInt(3) == 0 ? "" + draw.nextInt(24) : WORDS[13 + draw.nextInt(5)];
    }

    private String spoilt(String text) {
        int at = draw.nextInt(text.length() + 1);
        switch (draw.nextInt(4)) {
            case 0: return text.substring(0, at);
            case 1: return text.substring(0, at) + WORDS[draw.nextInt(WORDS.length)] + text.substring(at);
            case 2: return text.substring(0, at) + text.substring(Math.min(text.length(), at + 1 + draw.nextInt(4)));
            default: return text.substring(0, at) + (char) draw.nextInt(256) + text.substring(at);
        }
    }

    private boolean asks(String name, Object... args) throws ReflectiveOperationException {
        if (asked == MOST_CALLS) {
            return true;
        }
        asked++;
        Method m = null;
        for (Method c : calls) {
            m = c.getName().equals(name) ? c : m;
        }
        int got = (Integer) m.invoke(real, args);
        int due = (Integer) Model.class.getDeclaredMethod(name, m.getParameterTypes()).invoke(model, args);
        story.append("\n  ").append(name).append(java.util.Arrays.toString(args)).append(" answered ").append(got);
        if (got != due) {
            story.append(", due is ").append(due);
        }
        return got == due;
    }
}
