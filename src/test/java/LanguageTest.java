import java.lang.reflect.Array;
import java.lang.reflect.Constructor;
import java.lang.reflect.Field;
import java.lang.reflect.Method;
import java.lang.reflect.Modifier;
import java.nio.file.Files;
import java.nio.file.Path;
import java.util.ArrayList;
import java.util.Collections;
import java.util.HashSet;
import java.util.IdentityHashMap;
import java.util.List;
import java.util.Set;
import java.util.TreeSet;
import java.util.regex.Matcher;
import java.util.regex.Pattern;

/** The face of the document, and what of LANGUAGE.md can be seen from the file and the compiled class. */
public final class LanguageTest {
    private static int wrong = 0;

    private static final Set<String> FACE = Set.of(
        "int feed(int,int,int,int,int)", "int end(int)", "int roads()", "int rule()", "int force(int)",
        "int sentence(int,int)", "int walker(int,int)", "int shop(int)", "int day()", "int take(int,int)",
        "int giveBack(int,int)", "boolean swap(int,int)", "int shell(int,int)", "int check(int)", "int undo()",
        "int ahead(int,int,int)", "int way(int,int,int)", "int meet(int,int)", "int round(int,int)", "int parted(int)",
        "int seals(int,int)", "int saves(int)", "int owed(int,int)", "int choose(int,int,int)", "int log(int,int,int)",
        "int ruled(int)", "int look(int,int)", "int seed(int)", "int years(int,int,int,int)", "int count(int)",
        "int image(int)", "int back(int)");

    private static void hold(boolean good, String what) {
        if (!good) {
            wrong++;
            System.out.println("not so: " + what);
        }
    }

    private static String signature(Method m) {
        StringBuilder b = new StringBuilder(m.getReturnType().getSimpleName() + " " + m.getName() + "(");
        for (int i = 0; i < m.getParameterCount(); i++) b.append(i == 0 ? "" : ",").append(m.getParameterTypes()[i].getSimpleName());
        return b.append(")").toString();
    }

    private static void face() throws Exception {
        Class<?> c = ProxyWalk.class;
        hold(c.getModifiers() == (Modifier.PUBLIC | Modifier.FINAL), "the class is public and final");
        Set<String> found = new TreeSet<>();
        Set<String> names = new HashSet<>();
        for (Method m : c.getDeclaredMethods()) {
            if (Modifier.isPublic(m.getModifiers())) {
                found.add(signature(m));
                names.add(m.getName());
            }
        }
        hold(found.equals(new TreeSet<>(FACE)), "the face is the document's: " + found);
        hold(c.getDeclaredConstructors().length == 1, "one constructor");
        for (Constructor<?> k : c.getDeclaredConstructors()) hold(Modifier.isPublic(k.getModifiers()) && k.getParameterCount() == 0, "the constructor");
        for (Method m : c.getDeclaredMethods()) {
            if (Modifier.isPublic(m.getModifiers())) continue;
            hold(Modifier.isPrivate(m.getModifiers()), "private: " + m);
            hold(!names.contains(m.getName()), "no private method bears a public one's name: " + m);
        }
        for (Field f : c.getDeclaredFields()) hold(Modifier.isPrivate(f.getModifiers()) || f.getName().equals("NONE"), "private: " + f);
        Field none = c.getField("NONE");
        hold(Modifier.isStatic(none.getModifiers()) && Modifier.isFinal(none.getModifiers()) && none.getInt(null) == -1, "NONE");
        for (Class<?> inner : c.getDeclaredClasses()) {
            hold(Modifier.isStatic(inner.getModifiers()), "static: " + inner);
            hold(!Modifier.isPublic(inner.getModifiers()) && !Modifier.isProtected(inner.getModifiers()), "private: " + inner);
            for (Method m : inner.getDeclaredMethods()) hold(!names.contains(m.getName()), "no inner method bears a public one's name: " + m);
        }
        hold(c.getDeclaredClasses().length < 12, "at most twelve classes");
    }

    private static void members() {
        List<Class<?>> all = new ArrayList<>(List.of(ProxyWalk.class.getDeclaredClasses()));
        all.add(ProxyWalk.class);
        Set<String> constants = Set.of("int", "long", "boolean", "char", "String", "int[]", "long[]", "char[]", "byte[]");
        for (Class<?> c : all) {
            int fields = 0;
            for (Field f : c.getDeclaredFields()) {
                if (!Modifier.isStatic(f.getModifiers())) {
                    fields++;
                    continue;
                }
                hold(Modifier.isFinal(f.getModifiers()) && constants.contains(f.getType().getSimpleName()), "a constant: " + f);
            }
            hold(fields <= 20, "some twenty fields: " + c);
            for (Method m : c.getDeclaredMethods()) {
                hold(m.getParameterCount() <= 7, "seven parameters: " + m);
                hold(!m.isSynthetic(), "no hidden method: " + m);
            }
        }
    }

    private static String bare(String source) {
        return source.replaceAll("(?s)/\\*.*?\\*/", " ").replaceAll("//[^\n]*", " ").replaceAll("\"[^\"\n]*\"", "\"\"");
    }

    private static void words(String source) {
        String code = bare(source);
        for (String word : List.of("throw", "throws", "try", "catch", "synchronized", "assert", "package", "var", "yield", "volatile",
            "native", "transient", "finally", "hashCode", "toString", "Random", "System.out", "System.err", "Object", "Long.MIN_VALUE")) {
            hold(!Pattern.compile("(?<![\\w.])" + Pattern.quote(word) + "(?!\\w)").matcher(code).find(), "no '" + word + "'");
        }
        hold(!code.contains("->") && !code.contains("::"), "no lambda, no method reference");
        hold(!Pattern.compile("\\w+Exact\\b").matcher(code).find(), "nothing Exact");
        hold(!Pattern.compile("[^\\x00-\\x7f]").matcher(source).find(), "signs 1 to 127");
        hold(!Pattern.compile("\"[^\"]*\"\\s*\\+|\\+\\s*\"").matcher(code).find(), "no texts joined by +");
        Matcher imports = Pattern.compile("import\\s+([\\w.]+);").matcher(code);
        while (imports.find()) hold(List.of("java.util.Arrays", "java.util.ArrayList", "java.util.List").contains(imports.group(1)), "import " + imports.group(1));
        Matcher calls = Pattern.compile("\\b(Math|Arrays|System|Integer|Long)\\.(\\w+)").matcher(code);
        Set<String> allowed = Set.of("Math.max", "Math.min", "Math.abs", "Math.floorDiv", "Math.floorMod", "Integer.bitCount", "Long.bitCount",
            "Arrays.fill", "Arrays.copyOf", "Arrays.copyOfRange", "System.arraycopy");
        while (calls.find()) hold(allowed.contains(calls.group()), "of the library: " + calls.group());
    }

    /** Methods stay short, and make no object: what one object of the class needs is made with it. */
    private static void methods(String source) {
        String[] lines = source.split("\n");
        Pattern head = Pattern.compile("^( {4}| {8})(?! )(?!.*\\bclass\\b|for |if |while |switch )[\\w\\[\\] ]+\\([^)]*\\) \\{$");
        for (int i = 0; i < lines.length; i++) {
            Matcher m = head.matcher(lines[i]);
            if (!m.matches()) continue;
            int to = i;
            while (to < lines.length && !lines[to].equals(m.group(1) + "}")) to++;
            hold(to - i <= 60, "some sixty lines: " + lines[i].trim());
            boolean constructor = lines[i].matches("^ +(public )?[A-Z]\\w*\\(.*");
            for (int k = i; k < to && !constructor; k++) hold(!bare(lines[k]).matches(".*\\bnew\\b.*"), "no object made: " + lines[k].trim());
        }
    }

    /** One object with all it holds is a small part of the room, and 512 calls make it no larger. */
    private static void room() throws Exception {
        ProxyWalk p = new ProxyWalk();
        long[] before = held(p);
        for (int i = 0; i < 4; i++) p.image(i);
        for (int i = 0; i < 508; i++) p.feed(i, i, i, i, i);
        long[] after = held(p);
        hold(before[0] <= 1000 && before[1] <= 20000, "little room: " + before[0] + " objects, " + before[1] + " fields and elements");
        hold(before[0] == after[0] && before[1] == after[1], "no more room later: " + after[0] + " objects, " + after[1]);
    }

    /** Objects and arrays that can be come to from one; their fields and elements. */
    private static long[] held(Object first) throws Exception {
        long[] sums = new long[2];
        Set<Object> seen = Collections.newSetFromMap(new IdentityHashMap<>());
        List<Object> open = new ArrayList<>(List.of(first));
        while (!open.isEmpty()) {
            Object o = open.remove(open.size() - 1);
            if (!seen.add(o)) continue;
            sums[0]++;
            sums[1] += o.getClass().isArray() ? Array.getLength(o) : 0;
            for (int i = 0; o instanceof Object[] all && i < all.length; i++) open.add(all[i]);
            for (Field f : o.getClass().getDeclaredFields()) {
                if (Modifier.isStatic(f.getModifiers())) continue;
                sums[1]++;
                if (f.getType().isPrimitive()) continue;
                f.setAccessible(true);
                if (f.get(o) != null) open.add(f.get(o));
            }
        }
        return sums;
    }

    public static void main(String[] args) throws Exception {
        room();
        String source = Files.readString(Path.of("src/main/java/ProxyWalk.java"));
        face();
        members();
        words(source);
        methods(source);
        System.out.println(wrong == 0 ? "the language is kept to" : wrong + " breaches of the language");
        if (wrong != 0) System.exit(1);
    }
}
