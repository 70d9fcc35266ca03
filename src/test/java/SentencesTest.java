import java.io.IOException;
import java.lang.reflect.Method;
import java.nio.charset.StandardCharsets;
import java.nio.file.Files;
import java.nio.file.Path;
import java.util.HashSet;
import java.util.Set;
import java.util.regex.Matcher;
import java.util.regex.Pattern;

/** Each sentence of the terms and of the promises has a test of its own: no word of the document is without one. */
public final class SentencesTest extends Asked {
    private static final Path DOCUMENT = Path.of("../shared/DOC.md");
    private static final int PROMISES = 48;

    public static void main(String[] args) throws IOException {
        if (!Files.exists(DOCUMENT)) {
            System.out.println("SentencesTest: the document is not here, so that its words can't be looked at");
            return;
        }
        String document = Files.readString(DOCUMENT, StandardCharsets.UTF_8);
        String[] sections = new String[PROMISES + 1];
        sections[0] = terms(document);
        for (int n = 1; n <= PROMISES; n++) {
            sections[n] = promise(document, n);
        }
        look(sections);
        tellResult("SentencesTest");
    }

    private static String plain(String text) {
        return text.replaceAll("\\s+", " ").trim();
    }

    private static String terms(String document) {
        Matcher m = Pattern.compile("(?s)## Terms.*?\n(1\\. .*?)\nAhead of the calls").matcher(document);
        if (!m.find()) {
            return "";
        }
        return plain(m.group(1).replaceAll("(?m)^```\\w*$", "").replaceAll("(?m)^\\d\\. ", ""));
    }

    /** What a promise says behind the call's head. */
    private static String promise(String document, int n) {
        Matcher m = Pattern.compile("(?s)\n## Promise " + n + ": [^\n]*\n\\s*`[^`]*`:(.*?)\n## ").matcher(document);
        return m.find() ? plain(m.group(1)) : "";
    }

    private static void look(String[] sections) {
        boolean[][] tested = new boolean[sections.length][];
        for (int n = 0; n < sections.length; n++) {
            tested[n] = new boolean[sections[n].length()];
        }
        Set<String> names = new HashSet<>();
        for (Class<?> edges : Edges.ALL) {
            for (Method test : Edges.testsOf(edges)) {
                about = test.getName();
                Says says = test.getAnnotation(Says.class);
                due("its name is its own", names.add(test.getName()), true);
                due("its name has the number", test.getName().startsWith(prefix(says.promise())), true);
                for (String text : says.text()) {
                    mark(sections[says.promise()], tested[says.promise()], text);
                }
            }
        }
        for (int n = 0; n < sections.length; n++) {
            about = n == 0 ? "the terms" : "promise " + n;
            due("it is in the document", !sections[n].isEmpty(), true);
            tellUntested(sections[n], tested[n]);
        }
    }

    private static String prefix(int n) {
        return n == 0 ? "terms_" : (n < 10 ? "p0" : "p") + n + "_";
    }

    private static void mark(String section, boolean[] tested, String text) {
        int at = section.indexOf(text);
        due("the document says: " + text, at >= 0, true);
        for (int k = at; at >= 0 && k < at + text.length(); k++) {
            tested[k] = true;
        }
    }

    private static void tellUntested(String section, boolean[] tested) {
        StringBuilder left = new StringBuilder();
        for (int k = 0; k < tested.length; k++) {
            if (!tested[k]) {
                left.append(section.charAt(k));
            } else if (left.length() > 0 && left.charAt(left.length() - 1) != '|') {
                left.append('|');
            }
        }
        boolean all = left.toString().replaceAll("[^A-Za-z0-9]", "").isEmpty();
        due("words without a test [" + left + "], all are tested", all, true);
    }
}
