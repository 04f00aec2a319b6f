import java.io.IOException;
import java.lang.reflect.Constructor;
import java.lang.reflect.Field;
import java.lang.reflect.Method;
import java.nio.charset.StandardCharsets;
import java.nio.file.Files;
import java.nio.file.Path;
import java.util.LinkedHashMap;
import java.util.Map;
import java.util.Set;
import java.util.StringJoiner;
import java.util.TreeSet;
import java.util.regex.Matcher;
import java.util.regex.Pattern;

/**
 * Each sentence of "What it is", of the Terms and of the promises has a test that quotes it, each quote stands in the
 * document, and the class has the document's face.
 */
public final class DocumentTest extends Bench {
    private static final Path DOCUMENT = Path.of("..", "shared", "DOC.md");
    private static final Class<?>[] TESTS = {WhatItIsTest.class, TermsITest.class, TermsIITest.class, TermsIIITest.class, PromiseBoundariesTest.class};

    public static void main(String[] args) throws IOException {
        String document = Files.readString(DOCUMENT, StandardCharsets.UTF_8);
        Map<String, String> chapters = chapters(document);
        Map<String, boolean[]> quoted = new LinkedHashMap<>();
        chapters.forEach((name, text) -> quoted.put(name, new boolean[text.length()]));
        for (Class<?> tests : TESTS) for (Method m : testsOf(tests)) quote(m, chapters, quoted);
        for (String name : chapters.keySet()) {
            part(name);
            String left = left(chapters.get(name), quoted.get(name));
            if (!left.isEmpty()) System.out.println(name + ": no test quotes:" + left);
            due("what no test quotes", left.length(), 0);
        }
        due("promises, Terms and what it is", chapters.size(), 33 + 3 + 1);
        face(between(document, "## The public face", "## Terms"));
        close();
    }

    /** What the document tells as the face, without its brackets, and what the class shows are the same. */
    private static void face(String told) {
        part("The public face");
        Set<String> want = new TreeSet<>();
        Matcher line = Pattern.compile("(?m)^    public (.*);$").matcher(told);
        while (line.find()) want.add(line.group(1).replaceAll("int \\w+(?=[,)])", "int"));
        Set<String> got = new TreeSet<>();
        for (Field f : ProxyWalk.class.getFields()) got.add("static final " + f.getType() + " " + f.getName() + " = " + NONE);
        for (Constructor<?> c : ProxyWalk.class.getConstructors()) got.add(c.getName() + types(c.getParameterTypes()));
        for (Method m : ProxyWalk.class.getMethods()) {
            if (m.getDeclaringClass() == ProxyWalk.class) got.add(m.getReturnType() + " " + m.getName() + types(m.getParameterTypes()));
        }
        due("members of the face", want.size(), 34);
        due(got + " is " + want, got.equals(want), true);
        due("NONE", ProxyWalk.NONE, -1);
    }

    private static String types(Class<?>[] types) {
        StringJoiner all = new StringJoiner(", ", "(", ")");
        for (Class<?> type : types) all.add(type.toString());
        return all.toString();
    }

    /** By heading, the words of what it is, of the three parts of the Terms and of the promises. */
    private static Map<String, String> chapters(String document) {
        Map<String, String> found = new LinkedHashMap<>();
        found.put("What it is", between(document, "## What it is", "## The public face"));
        String terms = between(document, "## Terms", "The constants:");
        found.put("Terms I", between(terms, "", "==== II.").replace("```text", ""));
        found.put("Terms II", between(terms, "==== II.", "==== III.").replace("```text", ""));
        found.put("Terms III", between(terms, "==== III.", "").replace("```text", ""));
        for (int n = 1; n <= 33; n++) {
            String promise = between(document, "## Promise " + n + ":", n < 33 ? "## Promise " + (n + 1) + ":" : "## Not promised");
            // The words begin behind the call, which stands between two ` signs.
            found.put("Promise " + n, promise.substring(promise.lastIndexOf("`: ") + 3));
        }
        return found;
    }

    private static String between(String text, String from, String to) {
        int begin = text.indexOf(from) + from.length();
        int end = to.isEmpty() ? text.length() : text.indexOf(to, begin);
        return text.substring(begin, Math.max(begin, end));
    }

    private static void quote(Method test, Map<String, String> chapters, Map<String, boolean[]> quoted) {
        Sentence sentence = test.getAnnotation(Sentence.class);
        part(sentence.of() + ", " + test.getName());
        String chapter = sentence.of().split(",")[0];
        String text = chapters.getOrDefault(chapter, "");
        int at = text.indexOf(sentence.says());
        due("'" + sentence.says() + "' stands in the document", at >= 0, true);
        for (; at >= 0; at = text.indexOf(sentence.says(), at + 1)) {
            for (int i = 0; i < sentence.says().length(); i++) quoted.get(chapter)[at + i] = true;
        }
    }

    /** The words of a chapter that no test quotes. */
    private static String left(String text, boolean[] quoted) {
        StringBuilder left = new StringBuilder();
        for (int i = 0; i < text.length(); i++) {
            boolean word = Character.isLetterOrDigit(text.charAt(i));
            if (word && !quoted[i]) {
                if (i == 0 || !Character.isLetterOrDigit(text.charAt(i - 1)) || quoted[i - 1]) left.append(' ');
                left.append(text.charAt(i));
            }
        }
        return left.toString();
    }
}
