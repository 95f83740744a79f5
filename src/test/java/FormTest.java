import java.io.IOException;
import java.lang.reflect.Constructor;
import java.lang.reflect.Field;
import java.lang.reflect.Method;
import java.lang.reflect.Modifier;
import java.nio.file.Files;
import java.nio.file.Path;
import java.util.Set;
import java.util.TreeSet;
import java.util.regex.Pattern;

/** The public face, and the rules of LANGUAGE.md that are easily seen. */
public final class FormTest {
    private static final Set<String> FACE = Set.of(
        "public int DiagramCode.crossing(int,int,int,int,int)",
        "public int DiagramCode.check(int)",
        "public int DiagramCode.which()",
        "public int DiagramCode.many(int)",
        "public int DiagramCode.look(int,int)",
        "public int DiagramCode.edge(int,int)",
        "public int DiagramCode.component(int,int)",
        "public int DiagramCode.face(int,int)",
        "public void DiagramCode.mirror()",
        "public boolean DiagramCode.reverse(int)",
        "public void DiagramCode.number()",
        "public boolean DiagramCode.change(int)",
        "public boolean DiagramCode.smooth(int)");

    private static final String[] FORBIDDEN = {
        "\\bcatch\\b", "\\btry\\b", "\\bfinally\\b", "\\bthrow\\b", "\\bthrows\\b", "->", "::", "\\bsynchronized\\b",
        "\\bassert\\b", "Exact\\b", "\\bSystem\\.(?!arraycopy\\b)", "\\bstatic\\s*\\{", "^package\\b",
        "^import (?!java\\.util\\.(Arrays|List|ArrayList);)"
    };

    private static int wrong = 0;

    public static void main(String[] args) throws IOException {
        face();
        source(Files.readString(Path.of("src/main/java/DiagramCode.java")));
        System.out.println(wrong == 0 ? "FormTest: all as due" : "FormTest: " + wrong + " wrong");
        if (wrong != 0) {
            System.exit(1);
        }
    }

    private static void expect(boolean so, String what) {
        if (!so) {
            wrong++;
            System.out.println(what);
        }
    }

    private static void face() {
        Class<DiagramCode> c = DiagramCode.class;
        expect(c.getModifiers() == (Modifier.PUBLIC | Modifier.FINAL), "the class is not public and final");
        Constructor<?>[] constructors = c.getDeclaredConstructors();
        expect(constructors.length == 1 && constructors[0].toString().equals("public DiagramCode()"),
            "the constructors are not the document's");
        Set<String> seen = new TreeSet<>();
        Set<String> publicNames = new TreeSet<>();
        for (Method m : c.getDeclaredMethods()) {
            if (!Modifier.isPrivate(m.getModifiers())) {
                seen.add(m.toString());
                publicNames.add(m.getName());
            }
        }
        expect(seen.equals(FACE), "the methods are not the document's: " + seen);
        for (Method m : c.getDeclaredMethods()) {
            expect(!Modifier.isPrivate(m.getModifiers()) || !publicNames.contains(m.getName()),
                "a private method bears a public one's name: " + m);
        }
        for (Field f : c.getDeclaredFields()) {
            expect(Modifier.isPrivate(f.getModifiers()), "not private: " + f);
            expect(!Modifier.isStatic(f.getModifiers()) || Modifier.isFinal(f.getModifiers()), "static state: " + f);
        }
        for (Class<?> inside : c.getDeclaredClasses()) {
            expect(Modifier.isStatic(inside.getModifiers()), "not static: " + inside);
            expect(!Modifier.isPublic(inside.getModifiers()), "public: " + inside);
            expect(inside.getDeclaredFields().length <= 20, "too many fields: " + inside);
        }
        expect(c.getDeclaredClasses().length < 12, "too many classes");
    }

    private static void source(String text) {
        String code = text.replaceAll("(?s)/\\*.*?\\*/", "").replaceAll("//[^\n]*", "");
        for (String pattern : FORBIDDEN) {
            expect(!Pattern.compile(pattern, Pattern.MULTILINE).matcher(code).find(), "the program has " + pattern);
        }
        // No call but the constructors makes anything: all that is new is made for a field or by one.
        for (String line : code.split("\n")) {
            expect(!line.contains("new ") || line.matches(" +(private )?final .*= new .*;| +(put|held) = new Chart\\(\\);"),
                "something is made outside the constructors: " + line.trim());
        }
    }
}
