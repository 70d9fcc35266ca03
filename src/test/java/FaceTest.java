import java.io.IOException;
import java.lang.reflect.Constructor;
import java.lang.reflect.Field;
import java.lang.reflect.Method;
import java.lang.reflect.Modifier;
import java.nio.charset.StandardCharsets;
import java.nio.file.Files;
import java.nio.file.Path;
import java.util.Arrays;
import java.util.List;
import java.util.Set;
import java.util.TreeSet;
import java.util.regex.Matcher;
import java.util.regex.Pattern;

/** The public face as the document has it, and rules of LANGUAGE.md that can be seen from outside or from the source. */
public final class FaceTest {
    private static final String[] FACE = {
        "int sign(int)", "boolean end(int)", "int house()", "int rule()",
        "int door(int,int) NoSuchElementException", "int hinge(int,int) NoSuchElementException",
        "int secret(int,int)", "int sheet(int,int,int,int)", "int hang(int,int)", "int take(int)", "int oil(int,int)",
        "boolean bend(int)", "int day()", "int days(int)", "int gale(int,int)", "int order()", "int undo()",
        "int shut()", "int thief(int)", "int kept()", "int quiet(int)", "int lasts(int)", "int rent(int)",
        "int rusts(int)", "int wall(int)", "int guard(int)", "int all(int)", "int most()", "int best()",
        "int cheap(int)", "int change(int)", "int next()", "int spare()", "int risk(int)", "int stands()",
        "int heard(int)", "int forget()", "int ways()", "int been(int)", "int sure()", "int behind(int,int)",
        "int bid(int)", "int rings()", "boolean keep(int)", "boolean again(int)", "int count(int)",
        "long row(int) NoSuchElementException"
    };
    private static final Path SOURCE = Path.of("src/main/java/HingesOnHire.java");

    private static int wrong = 0;

    public static void main(String[] args) throws IOException {
        methods();
        otherMembers();
        insideClasses();
        source(Files.readString(SOURCE, StandardCharsets.ISO_8859_1));
        System.out.println("FaceTest: " + wrong + " wrong");
        if (wrong != 0) {
            System.exit(1);
        }
    }

    private static void hold(boolean good, String what) {
        if (!good) {
            wrong++;
            System.out.println("FaceTest: " + what);
        }
    }

    private static String told(Method m) {
        StringBuilder s = new StringBuilder(m.getReturnType().getSimpleName()).append(' ').append(m.getName()).append('(');
        for (int k = 0; k < m.getParameterCount(); k++) {
            s.append(k > 0 ? "," : "").append(m.getParameterTypes()[k].getSimpleName());
        }
        s.append(')');
        for (Class<?> e : m.getExceptionTypes()) {
            s.append(' ').append(e.getSimpleName());
        }
        return s.toString();
    }

    private static void methods() {
        Set<String> face = new TreeSet<>(Arrays.asList(FACE));
        Set<String> names = new TreeSet<>();
        Set<String> found = new TreeSet<>();
        for (Method m : HingesOnHire.class.getDeclaredMethods()) {
            if (Modifier.isPublic(m.getModifiers())) {
                found.add(told(m));
                names.add(m.getName());
                hold(!Modifier.isStatic(m.getModifiers()), m.getName() + " is static");
            }
        }
        hold(face.equals(found), "the face is " + found);
        for (Method m : HingesOnHire.class.getDeclaredMethods()) {
            boolean open = Modifier.isPublic(m.getModifiers());
            hold(open || Modifier.isPrivate(m.getModifiers()), m.getName() + " is neither public nor private");
            hold(open || !names.contains(m.getName()), m.getName() + " bears the name of a public one");
        }
    }

    private static void otherMembers() {
        hold(Modifier.isFinal(HingesOnHire.class.getModifiers()), "the class is not final");
        Constructor<?>[] made = HingesOnHire.class.getDeclaredConstructors();
        hold(made.length == 1 && made[0].getParameterCount() == 0 && Modifier.isPublic(made[0].getModifiers()),
            "constructors");
        for (Field f : HingesOnHire.class.getDeclaredFields()) {
            boolean none = f.getName().equals("NONE");
            hold(none == Modifier.isPublic(f.getModifiers()), f.getName() + " is public, or NONE is not");
            hold(none || Modifier.isPrivate(f.getModifiers()), f.getName() + " is not private");
            hold(Modifier.isFinal(f.getModifiers()), f.getName() + " is not final");
        }
        hold(HingesOnHire.NONE == -1, "NONE");
    }

    private static void insideClasses() {
        Class<?>[] inside = HingesOnHire.class.getDeclaredClasses();
        hold(inside.length < 12, "more than twelve classes");
        for (Class<?> c : inside) {
            hold(Modifier.isStatic(c.getModifiers()), c + " is not static");
            hold(!Modifier.isPublic(c.getModifiers()) && !Modifier.isProtected(c.getModifiers()), c + " is public");
            int fields = 0;
            for (Field f : c.getDeclaredFields()) {
                boolean constant = Modifier.isStatic(f.getModifiers());
                fields += constant ? 0 : 1;
                hold(!constant || Modifier.isFinal(f.getModifiers()), f + " is static and not final");
            }
            hold(fields <= 20, c + " has " + fields + " fields");
            for (Method m : c.getDeclaredMethods()) {
                hold(m.getParameterCount() <= 7, m + " takes more than seven");
                hold(Arrays.stream(FACE).noneMatch(f -> f.contains(" " + m.getName() + "(")),
                    m + " bears the name of a public one");
            }
        }
    }

    private static void source(String source) {
        String code = source.replaceAll("(?s)/\\*.*?\\*/", "").replaceAll("//[^\n]*", "");
        List<String> ruledOut = List.of("->", "::", "finally", "synchronized", "assert ", "Exact", "catch", "instanceof",
            "package ", "@", "System.out", "System.nano", "System.current", "Random", "Thread", "float", "double", "var ");
        for (String word : ruledOut) {
            hold(!code.contains(word), "the source has " + word);
        }
        for (char c : source.toCharArray()) {
            hold(c == '\n' || c >= 32 && c < 127, "the source has sign " + (int) c);
        }
        Matcher imports = Pattern.compile("import ([^;]+);").matcher(code);
        while (imports.find()) {
            hold(imports.group(1).equals("java.util.NoSuchElementException"), "import of " + imports.group(1));
        }
        // No call may fill the room: what is made is made with the object, but for the exceptions.
        for (String line : code.split("\n")) {
            boolean field = line.matches("\\s*(private )?final .* = new .*;");
            hold(!line.contains("new ") || field || line.contains("throw new NoSuchElementException("), "made in a call: " + line);
        }
        lengths(code);
    }

    private static void lengths(String code) {
        int start = 0;
        String[] lines = code.split("\n");
        for (int k = 0; k < lines.length; k++) {
            if (lines[k].matches("    (    )?\\S.*\\) (throws \\w+ )?\\{") && !lines[k].contains(" class ")) {
                start = k;
            }
            if (lines[k].matches("    (    )?\\}")) {
                hold(k - start < 60, "a method of more than sixty lines: " + lines[start]);
            }
            if (lines[k].matches("    \\}")) {
                start = k;
            }
            hold(lines[k].length() <= 125, "a long line: " + lines[k]);
        }
    }
}
