import java.io.IOException;
import java.lang.reflect.Method;
import java.nio.charset.StandardCharsets;
import java.nio.file.Files;
import java.nio.file.Path;
import java.util.LinkedHashMap;
import java.util.Map;

/** Each sentence of the Terms and of the promises has a test that quotes it, and each quote stands in the document. */
public final class DocumentTest extends Bench {
    private static final Path DOCUMENT = Path.of("..", "shared", "DOC.md");
    private static final Class<?>[] TESTS = {TermsITest.class, TermsIITest.class, TermsIIITest.class, PromiseBoundariesTest.class};

    public static void main(String[] args) throws IOException {
        Map<String, String> chapters = chapters(Files.readString(DOCUMENT, StandardCharsets.UTF_8));
        Map<String, boolean[]> quoted = new LinkedHashMap<>();
        chapters.forEach((name, text) -> quoted.put(name, new boolean[text.length()]));
        for (Class<?> tests : TESTS) for (Method m : testsOf(tests)) quote(m, chapters, quoted);
        for (String name : chapters.keySet()) {
            part(name);
            String left = left(chapters.get(name), quoted.get(name));
            if (!left.isEmpty()) System.out.println(name + ": no test quotes:" + left);
            due("what no test quotes", left.length(), 0);
        }
        due("promises and Terms", chapters.size(), 33 + 3);
        close();
    }

    /** By heading, the words of the three parts of the Terms and of the promises. */
    private static Map<String, String> chapters(String document) {
        Map<String, String> found = new LinkedHashMap<>();
        String terms = between(document, "## Terms", "The constants:");
        found.put("Terms I", between(terms, "", "==== II.").replace("```text", ""));
        found.put("Terms II", between(terms, "==== II.", "==== III.").replace("```text", ""));
        found.put("Terms III", between(terms, "==== III.", "").replace("```text", ""));
        for (int n = 1; n <= 33; n++) {
            String promise = between(document, "## Promise " + n + ":", n < 33 ? "## Promise " + (n + 1) + ":" : "## Not promised");
            // The words begin behind the call, which stands between two ` signs.
            found.put("Promise " + n, promise.substring(promise.lastIndexOf("`: ") + 3));
        }
        return found;
    }

    private static String between(String text, String from, String to) {
        int begin = text.indexOf(from) + from.length();
        int end = to.isEmpty() ? text.length() : text.indexOf(to, begin);
        return text.substring(begin, Math.max(begin, end));
    }

    private static void quote(Method test, Map<String, String> chapters, Map<String, boolean[]> quoted) {
        Sentence sentence = test.getAnnotation(Sentence.class);
        part(sentence.of() + ", " + test.getName());
        String chapter = sentence.of().split(",")[0];
        String text = chapters.getOrDefault(chapter, "");
        int at = text.indexOf(sentence.says());
        due("'" + sentence.says() + "' stands in the document", at >= 0, true);
        for (; at >= 0; at = text.indexOf(sentence.says(), at + 1)) {
            for (int i = 0; i < sentence.says().length(); i++) quoted.get(chapter)[at + i] = true;
        }
    }

    /** The words of a chapter that no test quotes. */
    private static String left(String text, boolean[] quoted) {
        StringBuilder left = new StringBuilder();
        for (int i = 0; i < text.length(); i++) {
            boolean word = Character.isLetterOrDigit(text.charAt(i));
            if (word && !quoted[i]) {
                if (i == 0 || !Character.isLetterOrDigit(text.charAt(i - 1)) || quoted[i - 1]) left.append(' ');
                left.append(text.charAt(i));
            }
        }
        return left.toString();
    }
}
