import java.util.ArrayList;
import java.util.HashMap;
import java.util.List;
import java.util.Map;

/**
 * The document once more, written for plainness and by other means than the class (trees, copies, all orders,
 * all rows, all paths), so that both can be asked the same and compared.
 */
final class Model {
    static final int NONE = -1;

    /** A FAULT that ends the reading. */
    static final class Fault extends RuntimeException {
        final int code;

        Fault(int place, int kind) {
            super(null, null, false, false);
            code = 1 + 8 * place + kind;
        }
    }

    static final class Sentence implements Cloneable {
        int town, due, fee, whose = NONE, buyer = NONE;
        boolean sealed, paid, checked;

        Sentence copy() {
            try {
                return (Sentence) clone();
            } catch (CloneNotSupportedException e) {
                throw new IllegalStateException(e);
            }
        }
    }

    static final class Walker implements Cloneable {
        int town, toGo, purse, free;

        Walker copy() {
            try {
                return (Walker) clone();
            } catch (CloneNotSupportedException e) {
                throw new IllegalStateException(e);
            }
        }
    }

    /** What ACTS change. */
    static final class State {
        int day;
        List<Walker> walkers = new ArrayList<>();
        List<Sentence> sentences = new ArrayList<>();

        State copy() {
            State s = new State();
            s.day = day;
            for (Walker w : walkers) s.walkers.add(w.copy());
            for (Sentence q : sentences) s.sentences.add(q.copy());
            return s;
        }

        long heldBits(int w) {
            long bits = 0;
            for (int i = 0; i < sentences.size(); i++) if (sentences.get(i).whose == w) bits |= 1L << i;
            return bits;
        }
    }

    /** Never changed once read. */
    static final class Land {
        int banned;
        List<Integer> prices = new ArrayList<>();
        Map<Integer, Integer> ways = new HashMap<>();
        State first = new State();

        Integer way(int a, int b) {
            return ways.get(Math.min(a, b) * 10 + Math.max(a, b));
        }

        int dist(int a, int b) {
            return dist(a, b, 1 << a);
        }

        /** Over all paths that come to no town twice; -1: none. */
        private int dist(int a, int b, int been) {
            if (a == b) return 0;
            int best = -1;
            for (int t = 0; t < prices.size(); t++) {
                if ((been >> t & 1) != 0 || way(a, t) == null) continue;
                int rest = dist(t, b, been | 1 << t);
                if (rest >= 0 && (best < 0 || rest + way(a, t) < best)) best = rest + way(a, t);
            }
            return best;
        }
    }

    // ---- reading

    static final class Source {
        final int[] text;
        int at;

        Source(int[] text) {
            this.text = text;
        }

        int peek() {
            while (at < text.length && text[at] == 32) at++;
            return at < text.length ? text[at] : -1;
        }

        boolean letter() {
            return peek() >= 'a' && peek() <= 'z';
        }

        boolean digit() {
            return peek() >= '0' && peek() <= '9';
        }

        String seeWord() {
            StringBuilder b = new StringBuilder();
            if (!letter()) return "";
            for (int i = at; i < text.length && text[i] >= 'a' && text[i] <= 'z'; i++) b.append((char) text[i]);
            return b.toString();
        }

        void pass(String s) {
            at += s.length();
        }

        Fault fault(int kind) {
            peek();
            return new Fault(at, kind);
        }

        String seeDigits() {
            StringBuilder b = new StringBuilder();
            if (!digit()) throw fault(0);
            for (int i = at; i < text.length && text[i] >= '0' && text[i] <= '9'; i++) b.append((char) text[i]);
            if (b.length() > 5) throw fault(1);
            return b.toString();
        }

        int number(int least, int most) {
            String digits = seeDigits();
            int n = Integer.parseInt(digits);
            if (n < least || n > most) throw fault(1);
            pass(digits);
            return n;
        }
    }

    static Land readLand(int[] text) {
        Source in = new Source(text);
        Land land = new Land();
        for (int clause = 1;; clause++) {
            String word = in.seeWord();
            List<Walker> ws = land.first.walkers;
            List<Sentence> ss = land.first.sentences;
            int towns = land.prices.size();
            if (!List.of("roads", "town", "shop", "way", "sentence", "walker").contains(word)) throw in.fault(0);
            if (clause > 40 || word.equals("roads") && clause > 1 || !word.equals("roads") && clause == 1) throw in.fault(4);
            if (word.equals("town") && towns == 8) throw in.fault(4);
            if (word.equals("sentence") && ss.size() == 6) throw in.fault(4);
            if (word.equals("walker") && (ws.size() == 3 || towns == 0)) throw in.fault(4);
            in.pass(word);
            if (word.equals("roads")) {
                land.banned = in.number(0, 99);
            } else if (word.equals("town")) {
                land.prices.add(0);
            } else if (word.equals("shop")) {
                int t = in.number(0, towns - 1);
                land.prices.set(t, in.number(1, 99));
            } else if (word.equals("way")) {
                int a = in.number(0, towns - 1);
                int before = in.at;
                int b = in.number(0, towns - 1);
                if (a == b) {
                    in.at = before;
                    throw in.fault(1);
                }
                land.ways.put(Math.min(a, b) * 10 + Math.max(a, b), in.number(1, 9));
            } else if (word.equals("sentence")) {
                Sentence s = new Sentence();
                s.town = in.number(0, towns - 1);
                s.due = in.number(0, 299);
                s.fee = in.number(0, 99);
                ss.add(s);
            } else {
                Walker w = new Walker();
                w.purse = in.number(0, 99);
                ws.add(w);
            }
            if (in.peek() == -1) return land;
            if (in.peek() != ';') throw in.fault(0);
            in.at++;
        }
    }

    interface Sum {
        long of(Map<String, Long> words);
    }

    interface Test {
        boolean of(Map<String, Long> words);
    }

    static final class Clause {
        Sum sum;
        Test test;
    }

    static final List<String> VALUES =
        List.of("walker", "town", "days", "asked", "due", "home", "purse", "has", "sealed", "day", "shop");

    static final class RuleSource {
        final Source in;
        int parts;

        RuleSource(int[] text) {
            in = new Source(text);
        }

        List<Clause> rule() {
            List<Clause> all = new ArrayList<>();
            while (true) {
                if (!in.seeWord().equals("go")) throw in.fault(0);
                if (all.size() == 12) throw in.fault(4);
                in.pass("go");
                Clause c = new Clause();
                c.sum = sum();
                if (in.seeWord().equals("if")) {
                    in.pass("if");
                    c.test = test(0);
                }
                all.add(c);
                if (in.peek() == -1) return all;
                if (in.peek() != ';') throw in.fault(0);
                in.at++;
            }
        }

        Test test(int depth) {
            Test left = part(depth);
            while (in.seeWord().equals("or")) {
                in.pass("or");
                Test l = left;
                Test r = part(depth);
                left = w -> l.of(w) || r.of(w);
            }
            return left;
        }

        Test part(int depth) {
            Test left = fact(depth);
            while (in.seeWord().equals("and")) {
                in.pass("and");
                Test l = left;
                Test r = fact(depth);
                left = w -> l.of(w) && r.of(w);
            }
            return left;
        }

        Test fact(int depth) {
            if (in.seeWord().equals("not")) {
                if (depth == 10) throw in.fault(2);
                in.pass("not");
                Test inner = fact(depth + 1);
                return w -> !inner.of(w);
            }
            if (in.peek() == '[') {
                if (depth == 10) throw in.fault(2);
                in.at++;
                Test inner = test(depth + 1);
                if (in.peek() != ']') throw in.fault(0);
                in.at++;
                return inner;
            }
            Sum left = sum();
            int c = in.peek();
            if (c != '<' && c != '>' && c != '=') throw in.fault(0);
            if (parts == 60) throw in.fault(3);
            parts++;
            in.at++;
            boolean wide = c != '=' && in.at < in.text.length && in.text[in.at] == '=';
            if (wide) in.at++;
            Sum right = sum();
            return w -> {
                int order = Long.compare(left.of(w), right.of(w));
                return c == '=' ? order == 0 : c == '<' ? order < (wide ? 1 : 0) : order > (wide ? -1 : 0);
            };
        }

        Sum sum() {
            Sum left = term();
            while (in.peek() == '+' || in.peek() == '-') {
                boolean plus = in.peek() == '+';
                in.at++;
                Sum l = left;
                Sum r = term();
                left = w -> plus ? l.of(w) + r.of(w) : l.of(w) - r.of(w);
            }
            return left;
        }

        Sum term() {
            Sum left = value();
            while (in.peek() == '*' || in.peek() == '/' || in.peek() == '%') {
                int op = in.peek();
                in.at++;
                Sum l = left;
                Sum r = value();
                left = w -> {
                    long a = l.of(w);
                    long b = r.of(w);
                    return op == '*' ? a * b : b == 0 ? 0 : op == '/' ? a / b : a % b;
                };
            }
            return left;
        }

        Sum value() {
            if (in.digit()) {
                String digits = in.seeDigits();
                if (parts == 60) throw in.fault(3);
                parts++;
                in.pass(digits);
                long n = Long.parseLong(digits);
                return w -> n;
            }
            String word = in.seeWord();
            if (!VALUES.contains(word)) throw in.fault(0);
            if (parts == 60) throw in.fault(3);
            parts++;
            in.pass(word);
            return w -> w.get(word);
        }
    }

    // ---- the state

    /** All that an IMAGE holds. */
    static final class Scene {
        Land land;
        State state = new State();
        int force = NONE;
        long x;
        List<int[]> logs = new ArrayList<>();
        List<State> past = new ArrayList<>();

        Scene copy() {
            Scene s = new Scene();
            s.land = land;
            s.state = state.copy();
            s.force = force;
            s.x = x;
            s.logs.addAll(logs);
            for (State p : past) s.past.add(p.copy());
            return s;
        }
    }

    Scene now = new Scene();
    final List<List<Clause>> rules = new ArrayList<>();
    final Scene[] images = new Scene[4];
    int[] tape = {};

    private int towns() {
        return now.land == null ? 0 : now.land.prices.size();
    }

    private boolean town(int t) {
        return t >= 0 && t < towns();
    }

    private boolean isW(int w) {
        return w >= 0 && w < now.state.walkers.size();
    }

    private boolean isS(int s) {
        return s >= 0 && s < now.state.sentences.size();
    }

    private Walker w(int w) {
        return now.state.walkers.get(w);
    }

    private Sentence s(int s) {
        return now.state.sentences.get(s);
    }

    private List<Clause> inForce() {
        return now.force == NONE ? null : rules.get(now.force);
    }

    private void act() {
        now.past.add(now.state.copy());
        if (now.past.size() > 20) now.past.remove(0);
    }

    long worth(State st, List<Clause> rule, int who, int town) {
        Walker me = st.walkers.get(who);
        Map<String, Long> words = new HashMap<>();
        long asked = 0, due = 999, has = 0, sealed = 0;
        for (Sentence q : st.sentences) {
            if (q.whose != who) continue;
            has++;
            if (q.sealed) sealed++;
            if (!q.sealed && q.town == town) {
                due = asked == 0 ? q.due - st.day : Math.min(due, q.due - st.day);
                asked++;
            }
        }
        words.put("walker", (long) who);
        words.put("town", (long) town);
        words.put("days", (long) now.land.way(me.town, town));
        words.put("asked", asked);
        words.put("due", due);
        int home = now.land.dist(town, 0);
        words.put("home", home < 0 ? 999L : home);
        words.put("purse", (long) me.purse);
        words.put("has", has);
        words.put("sealed", sealed);
        words.put("day", (long) st.day);
        words.put("shop", (long) now.land.prices.get(town));
        for (Clause c : rule) if (c.test == null || c.test.of(words)) return c.sum.of(words);
        return 0;
    }

    int pass(State st, List<Clause> rule) {
        int count = 0;
        for (int i = 0; i < st.walkers.size(); i++) {
            Walker me = st.walkers.get(i);
            if (me.toGo == 0 && rule != null) {
                int best = NONE;
                long most = 0;
                for (int t = 0; t < towns(); t++) {
                    if (now.land.way(me.town, t) == null) continue;
                    long v = worth(st, rule, i, t);
                    if (v > most) {
                        most = v;
                        best = t;
                    }
                }
                if (best != NONE) {
                    me.toGo = now.land.way(me.town, best);
                    me.town = best;
                }
            }
            if (me.toGo > 0) me.toGo--;
            if (me.toGo > 0) continue;
            for (Sentence q : st.sentences) {
                if (q.whose == i && q.town == me.town && !q.sealed && q.due >= st.day) {
                    q.sealed = true;
                    count++;
                }
            }
            for (Sentence q : st.sentences) {
                if (me.town == 0 && q.whose == i && q.sealed) {
                    q.paid = true;
                    q.whose = NONE;
                    me.purse = Math.min(9999, me.purse + q.fee);
                }
            }
        }
        st.day++;
        return count;
    }

    // ---- the face

    int feed(int a, int b, int c, int d, int e) {
        if (tape.length > 380) return NONE;
        int[] longer = java.util.Arrays.copyOf(tape, tape.length + 20);
        int[] five = {a, b, c, d, e};
        for (int i = 0; i < 20; i++) longer[tape.length + i] = five[i / 4] >> (24 - i % 4 * 8) & 255;
        tape = longer;
        return tape.length;
    }

    int end(int n) {
        if (n < 0 || n > tape.length) return NONE;
        tape = java.util.Arrays.copyOf(tape, n);
        return n;
    }

    int roads() {
        int[] text = tape;
        tape = new int[0];
        try {
            now.land = readLand(text);
        } catch (Fault f) {
            return -2 - f.code;
        }
        now.state = now.land.first.copy();
        now.logs.clear();
        now.past.clear();
        return towns();
    }

    int rule() {
        if (rules.size() == 6) return NONE;
        int[] text = tape;
        tape = new int[0];
        try {
            rules.add(new RuleSource(text).rule());
        } catch (Fault f) {
            return -2 - f.code;
        }
        return rules.size() - 1;
    }

    int force(int r) {
        if (r < -1 || r >= rules.size()) return -2;
        int was = now.force;
        now.force = r;
        return was;
    }

    int sentence(int i, int what) {
        if (!isS(i) || what < 0 || what > 6) return -2;
        Sentence q = s(i);
        return new int[] {q.town, q.due, q.fee, q.whose, q.sealed ? 1 : 0, q.paid ? 1 : 0, q.checked ? 1 : 0}[what];
    }

    int walker(int i, int what) {
        if (!isW(i) || what < 0 || what > 4) return NONE;
        Walker me = w(i);
        return new int[] {me.town, me.toGo, me.purse, me.free, (int) now.state.heldBits(i)}[what];
    }

    int shop(int t) {
        return town(t) ? now.land.prices.get(t) : NONE;
    }

    int day() {
        if (now.land == null || now.state.day == 999) return NONE;
        act();
        return pass(now.state, inForce());
    }

    int take(int i, int j) {
        if (!isW(i) || !isS(j) || w(i).town != 0 || w(i).toGo != 0 || now.state.day < w(i).free) return NONE;
        if (s(j).whose != NONE || s(j).paid) return NONE;
        act();
        s(j).whose = i;
        return Long.bitCount(now.state.heldBits(i));
    }

    int giveBack(int i, int j) {
        if (!isW(i) || !isS(j) || w(i).town != 0 || w(i).toGo != 0 || s(j).whose != i || s(j).sealed) return NONE;
        act();
        s(j).whose = NONE;
        return Long.bitCount(now.state.heldBits(i));
    }

    boolean swap(int i, int j) {
        if (!isW(i) || !isW(j) || i == j || w(i).toGo != 0 || w(j).toGo != 0 || w(i).town != w(j).town) return false;
        act();
        for (Sentence q : now.state.sentences) q.whose = q.whose == i ? j : q.whose == j ? i : q.whose;
        return true;
    }

    int shell(int i, int j) {
        if (!isW(i) || !isS(j) || w(i).toGo != 0 || s(j).whose != i || s(j).sealed) return NONE;
        int price = shop(w(i).town);
        if (price == 0 || w(i).purse < price) return NONE;
        act();
        w(i).purse -= price;
        s(j).sealed = true;
        s(j).buyer = i;
        return w(i).purse;
    }

    int check(int j) {
        if (!isS(j) || !s(j).sealed || s(j).checked) return NONE;
        act();
        Sentence q = s(j);
        if (q.buyer == NONE) {
            q.checked = true;
            return 0;
        }
        Walker cheat = w(q.buyer);
        cheat.free = now.state.day + now.land.banned;
        if (q.paid) cheat.purse = Math.max(0, cheat.purse - q.fee);
        now.state.sentences.set(j, now.land.first.sentences.get(j).copy());
        return 1;
    }

    int undo() {
        if (now.past.isEmpty()) return -2;
        now.state = now.past.remove(now.past.size() - 1);
        return now.past.size();
    }

    int ahead(int i, int n, int what) {
        if (now.land == null || n < 0 || n > 100 || what < 0 || what > 2 || what < 2 && !isW(i)) return -2;
        State st = now.state.copy();
        for (int d = 0; d < n; d++) pass(st, inForce());
        if (what == 2) return (int) st.sentences.stream().filter(q -> q.paid).count();
        Walker me = st.walkers.get(i);
        return what == 1 ? me.purse : me.toGo > 0 ? NONE : me.town;
    }

    int way(int a, int b, int what) {
        if (!town(a) || !town(b) || what < 0 || what > 1) return -3;
        int d = now.land.dist(a, b);
        if (d < 0) return -2;
        if (what == 0) return d;
        if (a == b) return NONE;
        for (int t = 0;; t++) {
            Integer step = now.land.way(a, t);
            if (step != null && step + now.land.dist(t, b) == d) return t;
        }
    }

    int meet(int i, int j) {
        if (!isW(i) || !isW(j) || i == j) return NONE;
        State st = now.state.copy();
        for (int d = 0; d < 100; d++) {
            Walker a = st.walkers.get(i);
            Walker b = st.walkers.get(j);
            if (a.toGo == 0 && b.toGo == 0 && a.town == b.town) return now.state.day + d;
            pass(st, inForce());
        }
        return -2;
    }

    /** DAYS till home with the rest of a set still to be SEALED, in the best order; -1: it can't be. */
    private int tour(int at, int gone, int set) {
        if (set == 0) return now.land.dist(at, 0) < 0 ? -1 : gone + now.land.dist(at, 0);
        int best = -1;
        for (int i = 0; i < now.state.sentences.size(); i++) {
            if ((set >> i & 1) == 0) continue;
            int d = now.land.dist(at, s(i).town);
            if (d < 0) continue;
            int sealedOn = gone + d == 0 ? now.state.day : now.state.day + gone + d - 1;
            if (sealedOn > s(i).due) continue;
            int all = tour(s(i).town, gone + d, set & ~(1 << i));
            if (all >= 0 && (best < 0 || all < best)) best = all;
        }
        return best;
    }

    private int tourOf(int i, int set) {
        for (int j = 0; j < now.state.sentences.size(); j++) {
            Sentence q = s(j);
            if ((set >> j & 1) != 0 && (q.sealed || q.paid || q.whose != NONE && q.whose != i)) return -1;
        }
        return tour(w(i).town, 0, set);
    }

    private int fees(int set) {
        int sum = 0;
        for (int j = 0; j < now.state.sentences.size(); j++) if ((set >> j & 1) != 0) sum += s(j).fee;
        return sum;
    }

    int round(int i, int what) {
        if (!isW(i) || w(i).toGo != 0 || what < 0 || what > 2) return -3;
        int[] best = null;
        for (int set = 0; set < 1 << now.state.sentences.size(); set++) {
            int days = tourOf(i, set);
            if (days < 0) continue;
            int[] me = {fees(set), set, days};
            if (best == null || me[0] > best[0] || me[0] == best[0] && me[2] < best[2]) best = me;
        }
        return best == null ? -2 : best[what];
    }

    int parted(int what) {
        if (now.land == null || what < 0 || what > 6) return -3;
        int n = now.state.sentences.size();
        if (what > n) return -2;
        int ws = now.state.walkers.size();
        boolean[][] can = new boolean[ws][1 << n];
        for (int i = 0; i < ws; i++) for (int set = 0; set < 1 << n; set++) can[i][set] = w(i).toGo == 0 && tourOf(i, set) >= 0;
        int all = 1;
        for (int j = 0; j < n; j++) all *= ws + 1;
        int most = -1;
        int[] best = null;
        for (int row = 0; row < all; row++) {
            int[] whose = new int[n];
            int rest = row;
            for (int j = n - 1; j >= 0; j--) {
                whose[j] = rest % (ws + 1) - 1;
                rest /= ws + 1;
            }
            int sum = 0;
            for (int i = 0; i < ws && sum >= 0; i++) {
                int set = 0;
                for (int j = 0; j < n; j++) if (whose[j] == i) set |= 1 << j;
                sum = set == 0 || can[i][set] ? sum + fees(set) : -1;
            }
            if (sum > most) {
                most = sum;
                best = whose;
            }
        }
        return what == 0 ? most : best[what - 1];
    }

    private void paths(int at, int to, int been, List<Integer> out) {
        if (at == to) {
            out.add(been);
            return;
        }
        for (int t = 0; t < towns(); t++) {
            if ((been >> t & 1) == 0 && now.land.way(at, t) != null) paths(t, to, been | 1 << t, out);
        }
    }

    int seals(int t, int what) {
        if (!town(t) || t == 0 || what < 0 || what > 1) return NONE;
        List<Integer> paths = new ArrayList<>();
        paths(0, t, 1, paths);
        for (int many = 0; many <= 7; many++) {
            for (int set = 0; set < 256; set += 2) {
                if (Integer.bitCount(set) != many) continue;
                boolean good = true;
                for (int i = 1; i < 8; i++) if ((set >> i & 1) != 0 && (!town(i) || shop(i) != 0)) good = false;
                for (int p : paths) if ((p & set) == 0) good = false;
                if (good) return what == 0 ? many : set;
            }
        }
        return -2;
    }

    int saves(int j) {
        if (!isS(j)) return -1000;
        int there = now.land.dist(0, s(j).town);
        int shop = -1;
        for (int t = 0; t < towns(); t++) {
            int d = now.land.dist(0, t);
            if (shop(t) > 0 && d >= 0 && (shop < 0 || d < shop)) shop = d;
        }
        return there < 0 || shop < 0 ? -1000 : 2 * (there - shop);
    }

    int owed(int i, int j) {
        if (!isW(i) || !isS(j) || s(j).whose != i) return NONE;
        if (s(j).sealed) return s(j).fee;
        int d = now.land.dist(0, s(j).town);
        int x = now.land.dist(w(i).town, s(j).town);
        if (d <= 0 || x < 0) return 0;
        return Math.max(0, Math.floorDiv(s(j).fee * (d - x), d));
    }

    int choose(int i, int n, int what) {
        if (!isW(i) || w(i).town != 0 || w(i).toGo != 0 || now.state.day < w(i).free) return -2;
        if (n < 1 || n > 100 || what < 0 || what > 1) return -2;
        int best = -9, most = -9;
        for (int j = -1; j < now.state.sentences.size(); j++) {
            State st = now.state.copy();
            if (j >= 0) {
                if (s(j).whose != NONE || s(j).paid) continue;
                st.sentences.get(j).whose = i;
            }
            for (int d = 0; d < n; d++) pass(st, inForce());
            if (st.walkers.get(i).purse > most) {
                most = st.walkers.get(i).purse;
                best = j;
            }
        }
        return what == 0 ? best : most;
    }

    int log(int n, int i, int t) {
        if (n == NONE) {
            now.logs.clear();
            return 0;
        }
        if (n < 0 || n > 60 || !isW(i) || t != NONE && !town(t) || now.logs.size() == 10) return -2;
        now.logs.add(new int[] {n, i, t});
        return now.logs.size();
    }

    /** Where a WALKER is behind a DAY, by a RULE, as the LOGS begin. */
    private int logged(int r, int n, int i) {
        State st = now.land.first.copy();
        for (int j = 0; j < Math.min(st.walkers.size(), st.sentences.size()); j++) st.sentences.get(j).whose = j;
        for (int d = 0; d <= n; d++) pass(st, r == NONE ? null : rules.get(r));
        Walker me = st.walkers.get(i);
        return me.toGo > 0 ? NONE : me.town;
    }

    private List<Integer> so() {
        List<Integer> all = new ArrayList<>();
        for (int r = -1; r < rules.size(); r++) {
            boolean good = true;
            for (int[] l : now.logs) good &= logged(r, l[0], l[1]) == l[2];
            if (good) all.add(r);
        }
        return all;
    }

    int ruled(int what) {
        if (now.land == null || what < 0 || what > 1) return -3;
        List<Integer> all = so();
        return what == 0 ? all.size() : all.isEmpty() ? -2 : all.get(0);
    }

    int look(int n, int what) {
        if (now.land == null || n < 0 || n > 60 || what < 0 || what > 1) return NONE;
        List<Integer> all = so();
        int best = -2, fewest = -2;
        for (int i = 0; i < now.state.walkers.size() && !all.isEmpty(); i++) {
            Map<Integer, Integer> tally = new HashMap<>();
            int most = 0;
            for (int r : all) most = Math.max(most, tally.merge(logged(r, n, i), 1, Integer::sum));
            if (best < 0 || most < fewest) {
                best = i;
                fewest = most;
            }
        }
        return what == 0 ? best : fewest;
    }

    int seed(int x) {
        if (x < 0) return NONE;
        int was = (int) now.x;
        now.x = x;
        return was;
    }

    int years(int m, int n, int p, int what) {
        if (now.land == null || m < 1 || m > 10 || n < 1 || n > 60 || p < 0 || p > 100 || what < 0 || what > 1) return NONE;
        long x = now.x;
        int often = 0, purses = 0;
        for (int k = 0; k < m; k++) {
            State st = now.state.copy();
            for (int d = 0; d < n; d++) {
                for (Walker me : st.walkers) {
                    if (me.toGo == 0) continue;
                    x = (x * 1103515245L + 12345L) % 2147483648L;
                    if (x / 65536 % 100 < p) {
                        often++;
                        me.purse = 0;
                        me.toGo++;
                    }
                }
                pass(st, inForce());
            }
            for (Walker me : st.walkers) purses += me.purse;
        }
        return what == 0 ? often : purses;
    }

    int count(int what) {
        int sealed = 0, paid = 0, in = 0;
        for (int j = 0; j < now.state.sentences.size(); j++) {
            if (s(j).sealed) sealed |= 1 << j;
            if (s(j).paid) paid |= 1 << j;
        }
        for (int i = 0; i < now.state.walkers.size(); i++) if (w(i).toGo == 0) in |= 1 << i;
        if (what < 0 || what > 14) return NONE;
        return new int[] {now.land == null ? 0 : now.land.banned, towns(), now.land == null ? 0 : now.land.ways.size(),
            now.state.sentences.size(), now.state.walkers.size(), rules.size(), now.force, now.state.day, sealed, paid, in,
            now.logs.size(), now.past.size(), (int) now.x, tape.length}[what];
    }

    int image(int k) {
        if (k < 0 || k > 3) return NONE;
        images[k] = now.copy();
        return now.state.day;
    }

    int back(int k) {
        if (k < 0 || k > 3 || images[k] == null) return NONE;
        now = images[k].copy();
        return now.state.day;
    }
}
