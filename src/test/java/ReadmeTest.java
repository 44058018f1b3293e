import java.lang.reflect.Method;
import java.nio.file.Files;
import java.nio.file.Path;
import java.util.TreeSet;
import java.util.regex.Matcher;
import java.util.regex.Pattern;

/** Makes the calls of README.md's example: each must answer what stands behind it, and none of the face is left out. */
public final class ReadmeTest {
    private static final Pattern CALL = Pattern.compile("hill\\.(\\w+)\\(([^)]*)\\); +// (\\S+)");

    public static void main(String[] args) throws Exception {
        int wrong = 0;
        JumpHill hill = new JumpHill();
        TreeSet<String> left = new TreeSet<>();
        for (Method m : JumpHill.class.getDeclaredMethods()) {
            if (java.lang.reflect.Modifier.isPublic(m.getModifiers())) {
                left.add(m.getName());
            }
        }
        for (String line : Files.readAllLines(Path.of("README.md"))) {
            Matcher m = CALL.matcher(line);
            if (!m.matches()) {
                if (line.startsWith("hill.")) {
                    wrong++;
                    System.out.println("no call with its answer: " + line);
                }
                continue;
            }
            left.remove(m.group(1));
            String got = answer(hill, m.group(1), m.group(2).isEmpty() ? new String[0] : m.group(2).split(", "));
            if (!got.equals(m.group(3))) {
                wrong++;
                System.out.println(line + " answered " + got);
            }
        }
        if (!left.isEmpty()) {
            wrong++;
            System.out.println("the example leaves out " + left);
        }
        System.out.println(wrong == 0 ? "ReadmeTest: all answers are as due" : "ReadmeTest: " + wrong + " wrong");
        if (wrong != 0) {
            System.exit(1);
        }
    }

    private static String answer(JumpHill hill, String name, String[] words) throws Exception {
        for (Method m : JumpHill.class.getDeclaredMethods()) {
            if (m.getName().equals(name) && m.getParameterCount() == words.length) {
                Object[] values = new Object[words.length];
                for (int i = 0; i < words.length; i++) {
                    boolean isNumber = m.getParameterTypes()[i] == int.class;
                    values[i] = isNumber ? (Object) Integer.decode(words[i]) : (Object) Boolean.valueOf(words[i]);
                }
                return String.valueOf(m.invoke(hill, values));
            }
        }
        return "nothing: there is no such call";
    }
}
