import java.io.IOException;
import java.lang.reflect.Method;
import java.nio.file.Files;
import java.nio.file.Path;
import java.util.ArrayList;
import java.util.HashSet;
import java.util.List;
import java.util.Set;
import java.util.regex.Matcher;
import java.util.regex.Pattern;

/** README.md's example: each of its lines answers what stands behind it, and every call of the class is in it. */
public final class ReadmeTest {
    private static final Pattern CALL = Pattern.compile("x\\.(\\w+)\\((.*?)\\); +// (-?\\d+)(: .*)?");
    private static final Pattern TELL = Pattern.compile("tell\\(x, \"(.*)\"\\);");

    private ReadmeTest() {
    }

    public static void main(String[] args) throws IOException, ReflectiveOperationException {
        String text = Files.readString(Path.of("README.md"));
        String example = text.substring(text.indexOf("```java\n") + 8);
        HourByVote x = new HourByVote();
        Set<String> called = new HashSet<>();
        for (String line : example.substring(0, example.indexOf("```")).split("\n")) {
            goBy(x, line, called);
        }
        for (Method m : HourByVote.class.getMethods()) {
            if (m.getDeclaringClass() == HourByVote.class) {
                Check.due("README.md calls " + m.getName(), called.contains(m.getName()) ? 1 : 0, 1);
            }
        }
        Check.end("ReadmeTest");
    }

    private static void goBy(HourByVote x, String line, Set<String> called) throws ReflectiveOperationException {
        Matcher call = CALL.matcher(line);
        Matcher tell = TELL.matcher(line);
        if (call.matches()) {
            called.add(call.group(1));
            Check.due("README.md: " + line, answer(x, call.group(1), call.group(2)), Integer.parseInt(call.group(3)));
        } else if (tell.matches()) {
            Check.feed(x, tell.group(1));
        } else {
            Check.due("README.md: read " + line, line.isEmpty() || line.startsWith("//") || line.equals("HourByVote x = new HourByVote();") ? 1 : 0, 1);
        }
    }

    private static int answer(HourByVote x, String name, String args) throws ReflectiveOperationException {
        for (Method m : HourByVote.class.getMethods()) {
            if (m.getName().equals(name)) {
                return (int) m.invoke(x, values(m.getParameterTypes(), args));
            }
        }
        throw new IllegalArgumentException(name);
    }

    private static Object[] values(Class<?>[] types, String args) {
        List<Object> values = new ArrayList<>();
        String[] told = args.isEmpty() ? new String[0] : args.split(", ");
        for (int i = 0; i < told.length; i++) {
            values.add(types[i] == boolean.class ? (Object) Boolean.valueOf(told[i])
                : types[i] == long.class ? (Object) Long.decode(told[i].replace("L", ""))
                : (Object) Integer.valueOf(told[i]));
        }
        return values.toArray();
    }
}
