import java.io.IOException;
import java.lang.reflect.Constructor;
import java.lang.reflect.Field;
import java.lang.reflect.Method;
import java.lang.reflect.Modifier;
import java.nio.charset.StandardCharsets;
import java.nio.file.Files;
import java.nio.file.Path;
import java.util.ArrayList;
import java.util.Arrays;
import java.util.HashSet;
import java.util.List;
import java.util.Set;
import java.util.regex.Matcher;
import java.util.regex.Pattern;

/** The face of the document, and what of LANGUAGE.md can be seen without reading for sense. */
public final class LanguageTest {
    private static final String FACE = "voter(int,int,int,int) voterOf(int,int) change(int,int,int) remake(int,int)"
        + " wakes(int,boolean) clock(int) limit(int) state(int) feed(long,int) rules() sum() noon() on(int) when(int) cycle(int)"
        + " buys(int) whom(int) liars() power(int) fewest(int) ith(int,int) ways(int,int) hours(int) limitFor(int,int) game(int)"
        + " play(int) report(int,int) forget() span(int) liar() seed(int) lot() often(int,int) prove(int) row(int,int)"
        + " alterRow(int,int,int) judge(int) sheet(int,int,int) write(int,int,int) item(int,int,int) goAll(int,int,int)"
        + " wouldBe(int,int,int) shelf(int,int,int) taken(int,int) act(int,int,int) trace(int) many(int) keep() again()";
    private static final String[] NEVER = {
        "\\bthrows?\\b", "\\btry\\b", "\\bcatch\\b", "\\bsynchronized\\b", "\\bassert\\b", "->", "::", "@", "\\bSystem\\.(?!arraycopy\\b)",
        "\\bprotected\\b", "\\bequals\\b", "\\bhashCode\\b", "\\btoString\\b", "Exact\\b", "\\bpackage\\b", "\\bnative\\b", "\\bvolatile\\b",
        "\\bObject\\b", "\\bgetClass\\b", "\\bString\\.", "\\bstatic\\s*\\{", "\\bvar\\b", "\\bdouble\\b", "\\bfloat\\b"
    };

    private LanguageTest() {
    }

    public static void main(String[] args) throws IOException {
        face();
        classes();
        source();
        Check.end("LanguageTest");
    }

    private static String told(Method m) {
        List<String> types = new ArrayList<>();
        for (Class<?> c : m.getParameterTypes()) {
            types.add(c.getSimpleName());
        }
        return m.getName() + "(" + String.join(",", types) + ")";
    }

    private static void face() {
        Set<String> due = new HashSet<>(Arrays.asList(FACE.split(" ")));
        Set<String> names = new HashSet<>();
        Check.due("49 methods and the constructor: 50 promises", due.size(), 49);
        for (String d : due) {
            names.add(d.substring(0, d.indexOf('(')));
        }
        for (Method m : HourByVote.class.getDeclaredMethods()) {
            boolean isPublic = Modifier.isPublic(m.getModifiers());
            Check.due("the face's " + told(m), due.remove(told(m)) ? 1 : 0, isPublic ? 1 : 0);
            Check.due("private " + told(m), !isPublic && (!Modifier.isPrivate(m.getModifiers()) || names.contains(m.getName())) ? 1 : 0, 0);
            Check.due("int " + m.getName(), isPublic && m.getReturnType() != int.class ? 1 : 0, 0);
        }
        Check.due("not there: " + due, due.size(), 0);
        Constructor<?>[] made = HourByVote.class.getDeclaredConstructors();
        Check.due("one constructor", made.length, 1);
        Check.due("public, without parameters", made[0].getParameterCount() + (Modifier.isPublic(made[0].getModifiers()) ? 0 : 1), 0);
        Check.due("public final class", HourByVote.class.getModifiers() & (Modifier.PUBLIC | Modifier.FINAL), Modifier.PUBLIC | Modifier.FINAL);
        Set<String> constants = new HashSet<>(List.of("BAD", "FULL", "NONE", "STATE"));
        for (Field f : HourByVote.class.getDeclaredFields()) {
            boolean isConstant = constants.remove(f.getName());
            Check.due("private " + f.getName(), Modifier.isPrivate(f.getModifiers()) ? 0 : 1, isConstant ? 1 : 0);
        }
        Check.due("constants: BAD", HourByVote.BAD, -1);
        Check.due("constants: FULL", HourByVote.FULL, -2);
        Check.due("constants: NONE", HourByVote.NONE, -3);
        Check.due("constants: STATE", HourByVote.STATE, -4);
        Check.due("not there: " + constants, constants.size(), 0);
    }

    private static void classes() {
        List<Class<?>> all = new ArrayList<>(List.of(HourByVote.class.getDeclaredClasses()));
        all.add(HourByVote.class);
        Check.due("some twelve classes", Math.max(12, all.size()), 12);
        for (Class<?> c : all) {
            int fields = 0;
            for (Field f : c.getDeclaredFields()) {
                boolean isStatic = Modifier.isStatic(f.getModifiers());
                fields += isStatic ? 0 : 1;
                Check.due("static and final: " + f, isStatic && !Modifier.isFinal(f.getModifiers()) ? 1 : 0, 0);
            }
            Check.due("some twenty fields: " + c, Math.max(20, fields), 20);
            Check.due("static: " + c, c == HourByVote.class || Modifier.isStatic(c.getModifiers()) ? 1 : 0, 1);
            Check.due("not public: " + c, c != HourByVote.class && Modifier.isPublic(c.getModifiers()) ? 1 : 0, 0);
            for (Method m : c.getDeclaredMethods()) {
                Check.due("seven parameters: " + m, Math.max(7, m.getParameterCount()), 7);
                Check.due("written out: " + m, m.isSynthetic() ? 1 : 0, 0);
            }
        }
    }

    private static void source() throws IOException {
        String whole = Files.readString(Path.of("src/main/java/HourByVote.java"), StandardCharsets.ISO_8859_1);
        String text = Pattern.compile("/\\*.*?\\*/|//[^\n]*", Pattern.DOTALL).matcher(whole).replaceAll("");
        for (String never : NEVER) {
            Matcher m = Pattern.compile(never).matcher(text);
            Check.due("none of " + never, m.find() ? 1 : 0, 0);
        }
        Matcher imports = Pattern.compile("(?m)^import (.*);$").matcher(text);
        while (imports.find()) {
            Check.due("import " + imports.group(1), imports.group(1).equals("java.util.Arrays") ? 1 : 0, 1);
        }
        for (char c : whole.toCharArray()) {
            if (c != '\n' && (c < 32 || c > 126)) {
                Check.due("a sign of number " + (int) c, 1, 0);
            }
        }
    }
}
