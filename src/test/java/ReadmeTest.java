import java.io.IOException;
import java.lang.reflect.Method;
import java.nio.file.Files;
import java.nio.file.Path;
import java.util.regex.Matcher;
import java.util.regex.Pattern;

/** The calls that README.md shows are made in their order, and answer what it says behind them. */
public final class ReadmeTest {
    private static final Pattern EXAMPLE = Pattern.compile("(?s)```java\n(.*?)```");
    private static final Pattern CALL = Pattern.compile("x\\.(\\w+)\\((.*?)\\);(?: *// (-?\\d+|true|false)(?::.*)?)?");

    private static int wrong = 0;
    private static int answers = 0;

    public static void main(String[] args) throws IOException, ReflectiveOperationException {
        Matcher example = EXAMPLE.matcher(Files.readString(Path.of("README.md")));
        if (!example.find()) {
            tell("README.md has no example");
        } else {
            perform(example.group(1).split("\n"));
        }
        if (answers == 0) {
            tell("the example tells no answer");
        }
        System.out.println("ReadmeTest: " + answers + " answers, " + (wrong == 0 ? "all as due" : wrong + " wrong"));
        if (wrong != 0) {
            System.exit(1);
        }
    }

    private static void perform(String[] lines) throws ReflectiveOperationException {
        DiagramCode x = null;
        for (String line : lines) {
            Matcher call = CALL.matcher(line);
            if (line.equals("DiagramCode x = new DiagramCode();")) {
                x = new DiagramCode();
            } else if (x != null && call.matches()) {
                compare(line, perform(x, call.group(1), call.group(2)), call.group(3));
            } else {
                tell("not understood: " + line);
            }
        }
    }

    private static Object perform(DiagramCode x, String name, String list) throws ReflectiveOperationException {
        String[] words = list.isEmpty() ? new String[0] : list.split(", ");
        Object[] arguments = new Object[words.length];
        for (int i = 0; i < words.length; i++) {
            arguments[i] = Integer.valueOf(words[i]);
        }
        for (Method m : DiagramCode.class.getMethods()) {
            if (m.getName().equals(name) && m.getParameterCount() == words.length) {
                return m.invoke(x, arguments);
            }
        }
        return "no such method";
    }

    /** What is void answers null here, and README.md says nothing behind it. */
    private static void compare(String line, Object got, String said) {
        if (!String.valueOf(got).equals(String.valueOf(said))) {
            tell(line + " answered " + got);
        }
        answers += said == null ? 0 : 1;
    }

    private static void tell(String what) {
        wrong++;
        System.out.println(what);
    }
}
