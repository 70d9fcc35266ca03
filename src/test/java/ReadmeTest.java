import java.io.IOException;
import java.lang.reflect.Method;
import java.nio.file.Files;
import java.nio.file.Path;
import java.util.regex.Matcher;
import java.util.regex.Pattern;

/** README.md's example: each call is made as it is written there, and answers what stands behind it. */
public final class ReadmeTest extends Asked {
    private static final String BEGINNING = "HingesOnHire town = new HingesOnHire();";
    private static final Pattern TEXT = Pattern.compile("tell\\(town, \"([^\"]*)\"\\);");
    private static final Pattern CALL = Pattern.compile("town\\.(\\w+)\\(([-0-9, ]*)\\); +// (-?\\d+)\\b.*");

    private ReadmeTest() {
    }

    public static void main(String[] args) throws IOException, ReflectiveOperationException {
        boolean inside = false;
        about = "README.md";
        for (String line : Files.readAllLines(Path.of("README.md"))) {
            if (line.equals(BEGINNING)) {
                inside = true;
                fresh();
            } else if (line.equals("```")) {
                inside = false;
            } else if (inside) {
                follow(line);
            }
        }
        if (asked == 0) {
            tellWrong("there is no example");
        }
        wrong += Counted.tooMany();
        System.out.println("ReadmeTest: " + asked + " answers, " + wrong + " wrong");
        if (wrong != 0) {
            System.exit(1);
        }
    }

    private static void follow(String line) throws ReflectiveOperationException {
        Matcher text = TEXT.matcher(line);
        Matcher call = CALL.matcher(line);
        if (text.matches()) {
            text(text.group(1));
        } else if (call.matches()) {
            due(line, answer(call.group(1), call.group(2)), Long.parseLong(call.group(3)));
        } else {
            tellWrong("not a call with its answer: " + line);
        }
    }

    private static long answer(String name, String numbers) throws ReflectiveOperationException {
        String[] written = numbers.isEmpty() ? new String[0] : numbers.split(", ");
        Class<?>[] types = new Class<?>[written.length];
        Object[] values = new Object[written.length];
        for (int k = 0; k < written.length; k++) {
            types[k] = int.class;
            values[k] = Integer.parseInt(written[k]);
        }
        Method method = Counted.class.getDeclaredMethod(name, types);
        return ((Number) method.invoke(x, values)).longValue();
    }
}
