import java.lang.reflect.Field;
import java.lang.reflect.Method;
import java.lang.reflect.Modifier;
import java.nio.file.Files;
import java.nio.file.Path;
import java.util.ArrayList;
import java.util.Arrays;
import java.util.List;
import java.util.TreeSet;
import java.util.regex.Matcher;
import java.util.regex.Pattern;

/**
 * The rules of LANGUAGE.md that can be seen from outside: the face, words that are ruled out, how long methods are,
 * and what a run of calls makes. The source's path is the only argument.
 */
public final class LanguageTest {
    private static final String[] FACE = {
        "int feed(int,int,int,int,int)", "int rules(int)", "int rule(int)", "int jumper(int)",
        "boolean sensor(int,int)", "boolean base(int)", "int reading(int,int,int,int,boolean)",
        "int wind(int,int,int,int,int,int)", "int style(int,int,int,int,int,int)", "int strike(int,int,boolean)",
        "int points(int,int,int,int)", "int told(int,int,int)", "int list(int,int)", "int start(int,int,int)",
        "int team(int,int)", "int record(int)", "int differ(int,int,int)", "int close()", "int count(int)"};
    private static final String[] RULED_OUT = {
        "\\bthrow\\b", "\\btry\\b", "\\bcatch\\b", "\\bsynchronized\\b", "\\bassert\\b", "->", "::", "\\bpackage\\b",
        "\\bhashCode\\b", "\\bHashMap\\b", "\\bRandom\\b", "\\bThread\\b", "System\\.(?!arraycopy\\b)", "\\bprotected\\b",
        "\\bObject\\b", "\\bvar\\b", "Exact\\b", "\\bimport (?!java\\.util\\.(Arrays|ArrayList|List|Iterator);)"};
    private static final int LONGEST_METHOD = 60;
    private static final int MOST_PARAMETERS = 7;
    private static final int MOST_FIELDS = 20;
    private static final int MOST_CLASSES = 12;
    private static final long MOST_BYTES = 100_000;

    private static int wrong = 0;

    public static void main(String[] args) throws Exception {
        face();
        classes();
        source(Files.readAllLines(Path.of(args[0])));
        room();
        System.out.println(wrong == 0 ? "LanguageTest: all rules are kept" : "LanguageTest: " + wrong + " wrong");
        if (wrong != 0) {
            System.exit(1);
        }
    }

    private static void check(boolean good, String what) {
        if (!good) {
            wrong++;
            System.out.println(what);
        }
    }

    private static void face() {
        TreeSet<String> found = new TreeSet<>();
        TreeSet<String> names = new TreeSet<>();
        for (Method m : JumpHill.class.getDeclaredMethods()) {
            if (!Modifier.isPrivate(m.getModifiers())) {
                String types = String.join(",", Arrays.stream(m.getParameterTypes()).map(Class::getName).toList());
                found.add(m.getReturnType().getName() + " " + m.getName() + "(" + types + ")");
                names.add(m.getName());
            }
        }
        check(found.equals(new TreeSet<>(List.of(FACE))), "1: the face's methods are " + found);
        for (Field f : JumpHill.class.getDeclaredFields()) {
            check(Modifier.isPrivate(f.getModifiers()) || f.getName().equals("NONE"), "1: open field " + f);
        }
        for (Class<?> c : all()) {
            for (Method m : c.getDeclaredMethods()) {
                check(!Modifier.isPrivate(m.getModifiers()) || !names.contains(m.getName()), "1: name of a public one " + m);
            }
        }
        check(Modifier.isFinal(JumpHill.class.getModifiers()), "1: the class is final");
        check(JumpHill.class.getConstructors().length == 1, "1: one constructor");
    }

    private static List<Class<?>> all() {
        List<Class<?>> all = new ArrayList<>(List.of(JumpHill.class.getDeclaredClasses()));
        all.add(JumpHill.class);
        return all;
    }

    private static void classes() {
        check(all().size() <= MOST_CLASSES, "11: classes " + all().size());
        for (Class<?> c : all()) {
            check(c == JumpHill.class || Modifier.isStatic(c.getModifiers()), "2: not static " + c);
            int fields = 0;
            for (Field f : c.getDeclaredFields()) {
                boolean isStatic = Modifier.isStatic(f.getModifiers());
                fields += isStatic ? 0 : 1;
                check(!isStatic || Modifier.isFinal(f.getModifiers()), "5: not final " + f);
            }
            check(fields <= MOST_FIELDS, "11: fields of " + c + " " + fields);
            for (Method m : c.getDeclaredMethods()) {
                check(m.getParameterCount() <= MOST_PARAMETERS, "11: parameters of " + m);
            }
        }
    }

    private static void source(List<String> lines) {
        String text = String.join("\n", lines).replaceAll("(?s)/\\*.*?\\*/", "").replaceAll("//[^\n]*", "");
        for (String pattern : RULED_OUT) {
            Matcher m = Pattern.compile(pattern).matcher(text);
            check(!m.find(), "ruled out: " + pattern);
        }
        for (int i = 0; i < text.length(); i++) {
            check(text.charAt(i) < 128, "3: a sign beyond 127");
        }
        int begun = -1;
        Pattern head = Pattern.compile("^( {4}| {8})(public|private)[^=;]*\\{$");
        for (int i = 0; i < lines.size(); i++) {
            if (head.matcher(lines.get(i)).find() && !lines.get(i).contains(" class ")) {
                begun = i;
            }
            if (begun >= 0 && lines.get(i).matches(" {4}( {4})?}") && indent(lines.get(i)) == indent(lines.get(begun))) {
                check(i - begun <= LONGEST_METHOD, "11: too long from line " + (begun + 1));
                begun = -1;
            }
        }
    }

    private static int indent(String line) {
        return line.length() - line.stripLeading().length();
    }

    /** A hill and 512 of its dearest calls must stay small beside the room of a whole run. */
    private static void room() {
        com.sun.management.ThreadMXBean bean =
            (com.sun.management.ThreadMXBean) java.lang.management.ManagementFactory.getThreadMXBean();
        if (!bean.isThreadAllocatedMemorySupported()) {
            return;
        }
        bean.getCurrentThreadAllocatedBytes();
        new JumpHill().close();
        long before = bean.getCurrentThreadAllocatedBytes();
        JumpHill x = new JumpHill();
        for (int i = 0; i < 24; i++) {
            x.jumper(i % 6);
        }
        for (int i = 0; i < 200; i++) {
            x.reading(i % 24, i / 24 % 2, 200 + i, 20, false);
        }
        for (int i = 0; i < 288; i++) {
            x.differ(i % 200, 200, i % 24);
        }
        long made = bean.getCurrentThreadAllocatedBytes() - before;
        check(made < MOST_BYTES, "12: a run makes " + made + " bytes");
    }
}
