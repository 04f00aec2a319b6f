import java.util.Random;

/** Asks the class and the model the same, many times over, and prints where they differ. */
public final class ModelTest {
    private static final int RUNS = 6000;
    private static final int CALLS = 170;
    private static int wrong = 0;
    private static long compared = 0;

    private final Random random;
    private final ProxyWalk real = new ProxyWalk();
    private final Model model = new Model();
    private final StringBuilder trace = new StringBuilder();
    private final int run;
    private boolean good = true;

    private ModelTest(int run) {
        this.run = run;
        random = new Random(run * 7919L + 17);
    }

    public static void main(String[] args) {
        int first = args.length > 0 ? Integer.parseInt(args[0]) : 0;
        for (int run = first; run < first + RUNS && wrong < 5; run++) new ModelTest(run).go();
        System.out.println(compared + " answers compared, " + wrong + " runs differ");
        if (wrong != 0) System.exit(1);
    }

    private void same(String call, long got, long want) {
        compared++;
        trace.append(call).append(" = ").append(want).append('\n');
        if (got != want && good) {
            good = false;
            wrong++;
            System.out.println("run " + run + ": " + call + " answered " + got + ", the model says " + want + "\n" + trace);
        }
    }

    private int in(int least, int most) {
        return least + random.nextInt(most - least + 1);
    }

    private boolean chance(int percent) {
        return random.nextInt(100) < percent;
    }

    // ---- texts

    private String roadsText() {
        StringBuilder b = new StringBuilder("roads " + in(0, 12));
        int towns = chance(5) ? in(0, 1) : in(2, chance(50) ? 8 : 5);
        for (int i = 0; i < towns; i++) b.append(";town");
        int ways = chance(20) ? in(0, 14) : in(towns, towns + 5);
        if (towns > 1 && chance(70)) for (int i = 1; i < towns; i++) b.append(";way ").append(in(0, i - 1)).append(' ').append(i).append(' ').append(in(1, chance(60) ? 3 : 9));
        for (int i = 0; i < ways && towns > 1; i++) {
            int a = in(0, towns - 1);
            int c = (a + in(1, towns - 1)) % towns;
            b.append(";way ").append(a).append(' ').append(c).append(' ').append(in(1, chance(60) ? 3 : 9));
        }
        int shops = in(0, 3);
        for (int i = 0; i < shops && towns > 0; i++) b.append(";shop ").append(in(0, towns - 1)).append(' ').append(in(1, chance(80) ? 9 : 99));
        int walkers = towns == 0 ? 0 : chance(10) ? in(0, 1) : in(1, 3);
        for (int i = 0; i < walkers; i++) b.append(";walker ").append(in(0, chance(80) ? 20 : 99));
        int sentences = towns == 0 ? 0 : in(0, 6);
        for (int i = 0; i < sentences; i++) {
            b.append(";sentence ").append(in(0, towns - 1)).append(' ').append(in(0, chance(70) ? 25 : 299)).append(' ').append(in(0, chance(20) ? 2 : 99));
        }
        return b.toString();
    }

    private String value() {
        return chance(35) ? String.valueOf(in(0, chance(80) ? 20 : 99999)) : Model.VALUES.get(in(0, 10));
    }

    private String sum() {
        StringBuilder b = new StringBuilder(value());
        for (int i = in(-2, 3); i > 0; i--) b.append("+-*/%+-*".charAt(in(0, 7))).append(chance(10) ? " " : "").append(value());
        return b.toString();
    }

    private String fact(int depth) {
        if (chance(15)) return "not " + fact(depth + 1);
        if (depth < 4 && chance(20)) return "[" + test(depth + 1) + "]";
        return sum() + new String[] {"<", "<=", "=", ">=", ">", " >= "}[in(0, 5)] + sum();
    }

    private String test(int depth) {
        StringBuilder b = new StringBuilder(fact(depth));
        for (int i = in(-2, 2); i > 0; i--) b.append(chance(50) ? " and " : " or ").append(fact(depth));
        return b.toString();
    }

    private static final String[] GOOD_RULES = {
        "go 99-home if has=sealed and has>0;go asked*50+town if has>0",
        "go 1", "go town+1", "go 100-days", "go asked*100+9-days if asked>0;go 20-home if sealed>0 or day%2=0;go 5-days",
        "go town if day>3", "go 50-due if asked>0;go 99-home if sealed=has;go town*7%5+walker",
        "go 10-town if [walker=0 or purse>10] and not day<2;go shop", "go day*town%3;go 1",
    };

    private String ruleText() {
        if (chance(40)) return GOOD_RULES[in(0, GOOD_RULES.length - 1)];
        StringBuilder b = new StringBuilder();
        int clauses = chance(5) ? in(10, 14) : in(1, 4);
        for (int i = 0; i < clauses; i++) {
            b.append(i == 0 ? "" : ";").append("go ").append(sum());
            if (chance(60)) b.append(" if ").append(test(0));
        }
        return b.toString();
    }

    private static final String[] BITS = {
        " ", ";", "[", "]", "not ", "0", "9", "10", "100000", "town", "walker ", "roads 1", "way 0 1 2", "<", "=", "<=", "and ",
        " or ", "if ", "go ", "+", "%", "1", "A", "\u00e9", "sentence 0 1 1", "shop 0 1", "walkers", "[[[[[[", "not not not not "
    };

    private String spoiled(String text) {
        StringBuilder b = new StringBuilder(text);
        for (int i = in(1, 3); i > 0 && b.length() > 0; i--) {
            int at = in(0, b.length());
            switch (in(0, 3)) {
                case 0:
                    if (at < b.length()) b.deleteCharAt(at);
                    break;
                case 1:
                    b.insert(at, BITS[in(0, BITS.length - 1)]);
                    break;
                case 2:
                    b.setLength(at);
                    break;
                default:
                    if (at < b.length()) b.replace(at, at + 1, BITS[in(0, BITS.length - 1)]);
                    break;
            }
        }
        return b.toString();
    }

    private void tell(String text) {
        String cut = text.length() > 400 ? text.substring(0, 400) : text;
        trace.append("tape: ").append(cut).append('\n');
        same("end(0)", real.end(0), model.end(0));
        for (int from = 0; from < cut.length(); from += 20) {
            int[] five = new int[5];
            for (int i = 0; i < 20; i++) five[i / 4] = five[i / 4] << 8 | (from + i < cut.length() ? cut.charAt(from + i) & 255 : 0);
            same("feed", real.feed(five[0], five[1], five[2], five[3], five[4]), model.feed(five[0], five[1], five[2], five[3], five[4]));
        }
        same("end", real.end(cut.length()), model.end(cut.length()));
    }

    private void tellRoads() {
        tell(chance(12) ? spoiled(roadsText()) : roadsText());
        same("roads()", real.roads(), model.roads());
    }

    private void tellRule() {
        tell(chance(25) ? spoiled(ruleText()) : ruleText());
        same("rule()", real.rule(), model.rule());
    }

    // ---- calls

    private void go() {
        for (int i = in(0, 4); i > 0; i--) tellRule();
        if (chance(95)) tellRoads();
        if (chance(90)) {
            int r = in(-1, 3);
            same("force(" + r + ")", real.force(r), model.force(r));
        }
        for (int i = 0; i < CALLS && good; i++) call(in(0, 99));
    }

    private int walker() {
        return chance(4) ? in(-2, 4) : in(0, 2);
    }

    private int sentence() {
        return chance(4) ? in(-2, 7) : in(0, 5);
    }

    private int town() {
        return chance(4) ? in(-2, 9) : in(0, 7);
    }

    private void call(int k) {
        if (k < 18) {
            same("day()", real.day(), model.day());
        } else if (k < 26) {
            int w = walker(), s = sentence();
            same("take(" + w + "," + s + ")", real.take(w, s), model.take(w, s));
        } else if (k < 46) {
            act();
        } else if (k < 70) {
            ask();
        } else if (k < 92) {
            readState();
        } else {
            change();
        }
    }

    private void act() {
        int w = walker(), v = walker(), s = sentence();
        switch (in(0, 5)) {
            case 0:
                same("giveBack(" + w + "," + s + ")", real.giveBack(w, s), model.giveBack(w, s));
                break;
            case 1:
                same("swap(" + w + "," + v + ")", real.swap(w, v) ? 1 : 0, model.swap(w, v) ? 1 : 0);
                break;
            case 2:
            case 3:
                same("shell(" + w + "," + s + ")", real.shell(w, s), model.shell(w, s));
                break;
            case 4:
                same("check(" + s + ")", real.check(s), model.check(s));
                break;
            default:
                same("undo()", real.undo(), model.undo());
                break;
        }
    }

    private void ask() {
        int w = walker(), v = walker(), s = sentence(), t = town(), u = town();
        int n = chance(5) ? in(-1, 102) : in(0, 30);
        int what = chance(5) ? in(-1, 3) : in(0, 1);
        switch (in(0, 11)) {
            case 0:
                what = in(-1, 3);
                same("ahead(" + w + "," + n + "," + what + ")", real.ahead(w, n, what), model.ahead(w, n, what));
                break;
            case 1:
                same("way(" + t + "," + u + "," + what + ")", real.way(t, u, what), model.way(t, u, what));
                break;
            case 2:
                same("meet(" + w + "," + v + ")", real.meet(w, v), model.meet(w, v));
                break;
            case 3:
                what = in(-1, 3);
                same("round(" + w + "," + what + ")", real.round(w, what), model.round(w, what));
                break;
            case 4:
                what = in(-1, 7);
                same("parted(" + what + ")", real.parted(what), model.parted(what));
                break;
            case 5:
                same("seals(" + t + "," + what + ")", real.seals(t, what), model.seals(t, what));
                break;
            case 6:
                same("saves(" + s + ")", real.saves(s), model.saves(s));
                break;
            case 7:
                same("owed(" + w + "," + s + ")", real.owed(w, s), model.owed(w, s));
                break;
            case 8:
                same("choose(" + w + "," + n + "," + what + ")", real.choose(w, n, what), model.choose(w, n, what));
                break;
            case 9:
                same("ruled(" + what + ")", real.ruled(what), model.ruled(what));
                break;
            case 10:
                n = Math.min(n, 61);
                same("look(" + n + "," + what + ")", real.look(n, what), model.look(n, what));
                break;
            default:
                int m = in(chance(5) ? 0 : 1, chance(5) ? 11 : 4), p = chance(5) ? in(-1, 101) : in(0, 60);
                n = Math.min(n, 61);
                same("years(" + m + "," + n + "," + p + "," + what + ")", real.years(m, n, p, what), model.years(m, n, p, what));
                break;
        }
    }

    private void readState() {
        int what = in(-1, 15);
        int w = walker(), s = sentence(), t = town();
        switch (in(0, 3)) {
            case 0:
                same("count(" + what + ")", real.count(what), model.count(what));
                break;
            case 1:
                same("sentence(" + s + "," + what % 8 + ")", real.sentence(s, what % 8), model.sentence(s, what % 8));
                break;
            case 2:
                same("walker(" + w + "," + what % 6 + ")", real.walker(w, what % 6), model.walker(w, what % 6));
                break;
            default:
                same("shop(" + t + ")", real.shop(t), model.shop(t));
                break;
        }
    }

    private void change() {
        int k = chance(5) ? in(-1, 4) : in(0, 3);
        switch (in(0, 9)) {
            case 0:
                same("image(" + k + ")", real.image(k), model.image(k));
                break;
            case 1:
                same("back(" + k + ")", real.back(k), model.back(k));
                break;
            case 2:
                int x = chance(30) ? in(-3, 3) : random.nextInt();
                same("seed(" + x + ")", real.seed(x), model.seed(x));
                break;
            case 3:
            case 4:
                int r = in(-2, 6);
                same("force(" + r + ")", real.force(r), model.force(r));
                break;
            case 5:
            case 6:
            case 7:
                int n = chance(10) ? in(-1, 61) : in(0, 8), w = walker(), t = chance(30) ? -1 : town();
                same("log(" + n + "," + w + "," + t + ")", real.log(n, w, t), model.log(n, w, t));
                break;
            case 8:
                tellRule();
                break;
            default:
                if (chance(30)) tellRoads();
                break;
        }
    }
}
