import java.lang.reflect.InvocationTargetException;
import java.lang.reflect.Method;
import java.util.ArrayList;
import java.util.Comparator;
import java.util.List;
import java.util.function.IntSupplier;

/** What tests share: texts told to an object, answers compared with those due, tests run one by one by their sentence. */
abstract class Bench {
    static final int NONE = -1;

    /** Four towns round about, a shop in town 1, three sentences, two walkers. */
    static final String RING = "roads 5;town;town;town;town;shop 1 3;way 0 1 2;way 1 2 3;way 0 3 4;way 2 3 1;"
        + "sentence 2 8 20;sentence 3 3 7;sentence 1 0 5;walker 6;walker 2";
    /** Home and one town a day away, shops in both. */
    static final String PAIR = "roads 4;town;town;shop 0 2;shop 1 9;way 0 1 1;sentence 1 50 10;walker 5";
    /** A line of towns, one day each. */
    static final String LINE = "roads 3;town;town;town;town;way 0 1 1;way 1 2 1;way 2 3 1;"
        + "sentence 3 20 30;sentence 1 20 8;walker 10;walker 20;walker 30";
    static final String SEEKER = "go 99-home if has=sealed and has>0;go asked*50+town if has>0";

    private static String part = "";
    private static int asked = 0;
    private static int wrong = 0;

    static void part(String name) {
        part = name;
    }

    static void due(String call, long got, long want) {
        asked++;
        if (got != want) {
            wrong++;
            System.out.println(part + ": " + call + " answered " + got + ", due is " + want);
        }
    }

    static void due(String call, boolean got, boolean want) {
        due(call, got ? 1 : 0, want ? 1 : 0);
    }

    /** A call that answers so, and by which nothing happens. */
    static void refused(ProxyWalk p, String call, IntSupplier ask, int want) {
        String before = state(p);
        due(call, ask.getAsInt(), want);
        due(call + ": nothing happens", before.equals(state(p)), true);
    }

    /** All that can be seen of an object without changing it. */
    static String state(ProxyWalk p) {
        StringBuilder all = new StringBuilder();
        for (int what = 0; what <= 14; what++) all.append(p.count(what)).append(' ');
        for (int s = 0; s < 6; s++) for (int what = 0; what < 7; what++) all.append(p.sentence(s, what)).append(' ');
        for (int w = 0; w < 3; w++) for (int what = 0; what < 5; what++) all.append(p.walker(w, what)).append(' ');
        for (int t = 0; t < 8; t++) {
            all.append(p.shop(t)).append(' ');
            for (int u = 0; u < 8; u++) all.append(p.way(t, u, 0)).append(' ');
        }
        for (int w = 0; w < 3; w++) for (int n = 0; n < 9; n += 4) all.append(p.ahead(w, n, 0)).append(' ').append(p.ahead(w, n, 1)).append(' ');
        return all.append(p.ruled(0)).append(' ').append(p.ruled(1)).append(' ').append(p.years(1, 9, 50, 0)).toString();
    }

    static void tell(ProxyWalk p, String text) {
        p.end(0);
        for (int from = 0; from < text.length(); from += 20) {
            int[] five = new int[5];
            for (int i = 0; i < 20; i++) {
                int sign = from + i < text.length() ? text.charAt(from + i) : 0;
                five[i / 4] = five[i / 4] << 8 | sign;
            }
            p.feed(five[0], five[1], five[2], five[3], five[4]);
        }
        p.end(text.length());
    }

    static int roads(ProxyWalk p, String text) {
        tell(p, text);
        return p.roads();
    }

    static int rule(ProxyWalk p, String text) {
        tell(p, text);
        return p.rule();
    }

    /** A new object with these ROADS and RULES, the first of which is IN FORCE. */
    static ProxyWalk on(String roads, String... rules) {
        ProxyWalk p = new ProxyWalk();
        due("roads '" + roads + "' are read", roads(p, roads) >= 0, true);
        for (int i = 0; i < rules.length; i++) due("rule '" + rules[i] + "'", rule(p, rules[i]), i);
        if (rules.length > 0) p.force(0);
        return p;
    }

    /** How many SENTENCES are SEALED on so many DAYS. */
    static int days(ProxyWalk p, int n) {
        int sealed = 0;
        for (int i = 0; i < n; i++) sealed += p.day();
        return sealed;
    }

    static int fault(int place, int kind) {
        return -2 - (1 + 8 * place + kind);
    }

    static void roadsAre(String text, int towns) {
        due("roads of '" + text + "'", roads(new ProxyWalk(), text), towns);
    }

    static void ruleIs(String text) {
        due("rule of '" + text + "'", rule(new ProxyWalk(), text), 0);
    }

    /** The FAULT is where ^ stands, which is no part of the text. */
    static void roadsFault(String marked, int kind) {
        String text = marked.replace("^", "");
        due("roads of '" + text + "'", roads(new ProxyWalk(), text), fault(marked.indexOf('^'), kind));
    }

    static void ruleFault(String marked, int kind) {
        String text = marked.replace("^", "");
        due("rule of '" + text + "'", rule(new ProxyWalk(), text), fault(marked.indexOf('^'), kind));
    }

    static String times(String s, int n) {
        return s.repeat(n);
    }

    /** Whether one goes from home to town 1 by this rule; two sentences for it are theirs, one for home is nobody's. */
    static void goes(String rule, boolean want) {
        ProxyWalk p = on("roads 0;town;town;shop 1 7;way 0 1 2;sentence 1 5 1;sentence 1 9 1;sentence 0 9 1;walker 8", rule);
        p.take(0, 0);
        p.take(0, 1);
        p.day();
        due("gone by " + rule, p.walker(0, 0) == 1, want);
    }

    /** Whether a TEST holds there. */
    static void holds(String test, boolean want) {
        goes("go 1 if " + test, want);
    }

    /** Ends with 1 if an answer was not as due. */
    static void close() {
        System.out.println(asked + " answers, " + wrong + " not as due");
        if (wrong != 0) System.exit(1);
    }

    static List<Method> testsOf(Class<?> tests) {
        List<Method> found = new ArrayList<>();
        for (Method m : tests.getDeclaredMethods()) if (m.isAnnotationPresent(Sentence.class)) found.add(m);
        found.sort(Comparator.comparing((Method m) -> chapter(m)).thenComparing(Method::getName));
        return found;
    }

    /** A promise's number as two digits, so that they sort. */
    private static String chapter(Method test) {
        return test.getAnnotation(Sentence.class).of().replaceFirst("Promise (\\d)$", "Promise 0$1");
    }

    /** Runs every test of a class that bears a sentence, and tells of each how it went; by name, if one is given. */
    static void runAll(Class<?> tests, String... only) {
        int failed = 0;
        List<Method> found = testsOf(tests);
        for (Method m : found) {
            if (only.length > 0 && !only[0].equals(m.getName())) continue;
            Sentence sentence = m.getAnnotation(Sentence.class);
            part = sentence.of() + ", " + m.getName();
            int before = wrong;
            run(m);
            boolean good = wrong == before;
            failed += good ? 0 : 1;
            System.out.println((good ? "  ok: " : "  FAILED: ") + part + ": \"" + sentence.says() + "\"");
        }
        System.out.println(found.size() + " tests, " + failed + " failed");
        close();
    }

    private static void run(Method test) {
        try {
            test.setAccessible(true);
            test.invoke(null);
        } catch (InvocationTargetException e) {
            wrong++;
            System.out.println(part + " threw " + e.getCause());
        } catch (IllegalAccessException e) {
            wrong++;
            System.out.println(part + " can't be run: " + e);
        }
    }
}
