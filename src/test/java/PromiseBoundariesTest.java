/** Promises 1 to 33: a test of its own for each of their sentences, at its boundaries. */
public final class PromiseBoundariesTest extends Bench {
    /** Numbers far off, which no TOWN, SENTENCE, WALKER, RULE or what has. */
    private static final int[] FAR_OFF = {-2, -3, 100, 1000000, Integer.MAX_VALUE, Integer.MIN_VALUE};

    public static void main(String[] args) {
        runAll(PromiseBoundariesTest.class, args);
    }

    // ---- 1 to 6: a new object, the TAPE, ROADS, RULES

    @Sentence(of = "Promise 1", says = "No ROADS, no RULES, none IN FORCE.")
    static void newObject() {
        ProxyWalk p = new ProxyWalk();
        for (int what = 0; what <= 14; what++) due("count(" + what + ")", p.count(what), what == 6 ? NONE : 0);
        refused(p, "no ROADS: day()", p::day, NONE);
        due("no ROADS: parted(0)", p.parted(0), -3);
        due("no TOWN", p.shop(0), NONE);
        due("no SENTENCE", p.sentence(0, 0), -2);
        due("no WALKER", p.walker(0, 0), NONE);
        due("no RULE", p.force(0), -2);
        due("none IN FORCE", p.force(NONE), NONE);
        due("nothing to be UNDONE", p.undo(), -2);
        for (int k = 0; k < 4; k++) due("no IMAGE", p.back(k), NONE);
        due("x", p.seed(0), 0);
    }

    @Sentence(of = "Promise 2", says = "Twenty bytes come behind the TAPE, of each number the highest first: how many it has;")
    static void feedTwentyBytes() {
        ProxyWalk p = new ProxyWalk();
        for (int i = 1; i <= 20; i++) {
            due("feed", p.feed(0, -1, Integer.MIN_VALUE, Integer.MAX_VALUE, 1), 20 * i);
            due("bytes", p.count(14), 20 * i);
        }
        ProxyWalk q = new ProxyWalk();
        // "go 1;go 2;go 3;go 4 " and behind it "if 1=1;go 5;go 6;go7".
        due("feed", q.feed(0x676f2031, 0x3b676f20, 0x323b676f, 0x20333b67, 0x6f203420), 20);
        due("feed", q.feed(0x69662031, 0x3d313b67, 0x6f20353b, 0x676f2036, 0x3b676f37), 40);
        due("in that order", q.rule(), 0);
        for (int at = 0; at < 20; at++) {
            int[] five = {0x676f2031, 0x20202020, 0x20202020, 0x20202020, 0x20202020};
            if (at < 4) five[0] = 0x20202020;
            five[at / 4] = five[at / 4] & ~(255 << 24 - at % 4 * 8) | 0xe9 << 24 - at % 4 * 8;
            q.feed(five[0], five[1], five[2], five[3], five[4]);
            due("byte " + at + " is its own", q.rule(), fault(at, 0));
        }
        q.feed(0x676f2020, 0x20202020, 0x20202020, 0x20202020, 0x20202020);
        q.end(7);
        q.feed(0x31202020, 0x20202020, 0x20202020, 0x20202020, 0x20202020);
        due("behind what end left", q.count(14), 27);
        due("behind what end left", q.rule(), 1);
    }

    @Sentence(of = "Promise 2", says = "NONE, and none comes, if it would have more than 400.")
    static void feedBeyond400() {
        ProxyWalk p = new ProxyWalk();
        for (int i = 0; i < 20; i++) p.feed(0x20202020, 0x20202020, 0x20202020, 0x20202020, 0x20202020);
        for (int n : new int[] {400, 399, 390, 382, 381}) {
            due("end", p.end(n), n);
            refused(p, "feed to " + (n + 20), () -> p.feed(0x20202020, 0, 0, 0, 0), NONE);
            due("none comes", p.end(n + 1), NONE);
        }
        due("end", p.end(380), 380);
        due("feed to 400", p.feed(0x20202020, 0x20202020, 0x20202020, 0x20202020, 0x2020203b), 400);
        due("its last byte", p.roads(), fault(399, 0));
    }

    @Sentence(of = "Promise 3", says = "The TAPE has its first n bytes alone: n;")
    static void endLeavesTheFirst() {
        ProxyWalk p = new ProxyWalk();
        due("of none", p.end(0), 0);
        p.feed(0x676f2031, 0x3b676f20, 0x32202020, 0x20202020, 0x202020ff);
        due("all", p.end(20), 20);
        due("all but one", p.end(19), 19);
        due("bytes", p.count(14), 19);
        due("the first alone", p.end(4), 4);
        due("not those behind", p.end(5), NONE);
        due("read", p.rule(), 0);
        p.feed(0x676f2031, 0, 0, 0, 0);
        due("none", p.end(0), 0);
        due("bytes", p.count(14), 0);
        due("none is read", p.rule(), fault(0, 0));
    }

    @Sentence(of = "Promise 3", says = "NONE, and nothing happens, if it has not so many, or n is below 0.")
    static void endRefused() {
        ProxyWalk p = new ProxyWalk();
        refused(p, "end(1) of none", () -> p.end(1), NONE);
        refused(p, "end(-1) of none", () -> p.end(-1), NONE);
        p.feed(0x676f2031, 0x20202020, 0x20202020, 0x20202020, 0x20202020);
        for (int n : new int[] {21, 22, 400, 401, Integer.MAX_VALUE, -1, -2, Integer.MIN_VALUE}) refused(p, "end(" + n + ")", () -> p.end(n), NONE);
        due("still 20", p.rule(), 0);
    }

    @Sentence(of = "Promise 4", says = "The TAPE, which is empty then, is the ROADS in place of those there were")
    static void roadsInPlace() {
        ProxyWalk p = new ProxyWalk();
        due("roads", roads(p, RING), 4);
        due("the TAPE is empty", p.count(14), 0);
        due("nothing to read", p.roads(), fault(0, 0));
        due("roads anew", roads(p, "roads 2;town;town;way 0 1 6;sentence 1 3 2;walker 9"), 2);
        ProxyWalk q = on("roads 2;town;town;way 0 1 6;sentence 1 3 2;walker 9");
        due("as on a new object", state(p).equals(state(q)), true);
        due("seals as on a new object", p.seals(1, 1), q.seals(1, 1));
        due("no towns", roads(p, "roads 7"), 0);
        due("as on a new object", state(p).equals(state(on("roads 7"))), true);
        roads(p, "roads 0;town" + times(";sentence 0 9 99", 6) + ";walker 0;walker 0");
        due("FEES of six", p.parted(0), 594);
        roads(p, "roads 0;town;sentence 0 9 1;walker 0");
        due("FEES of one", p.parted(0), 1);
        due("the set of one", p.round(0, 1), 1);
        ProxyWalk r = on(PAIR, "go 1");
        r.take(0, 0);
        r.shell(0, 0);
        roads(r, PAIR);
        r.take(0, 0);
        due("sealed", r.day(), 1);
        due("no shell was bought for it", r.check(0), 0);
    }

    @Sentence(of = "Promise 4", says = "(no LOGS, nothing to be UNDONE;")
    static void roadsWithoutLogsAndActs() {
        ProxyWalk p = on(RING);
        p.log(3, 0, 3);
        p.take(0, 0);
        p.day();
        roads(p, RING);
        due("no LOGS", p.count(11), 0);
        due("all is so", p.ruled(0), 1);
        due("no ACTS", p.count(12), 0);
        refused(p, "undo()", p::undo, -2);
        due("the first LOG", p.log(0, 0, 0), 1);
        p.take(0, 1);
        due("the first ACT", p.undo(), 0);
    }

    @Sentence(of = "Promise 4", says = "the RULE IN FORCE and x stay):")
    static void roadsKeepForceAndX() {
        ProxyWalk p = on(RING, "go 1", "go town");
        p.force(1);
        p.seed(2147483647);
        roads(p, LINE);
        due("the RULE IN FORCE", p.count(6), 1);
        due("x", p.count(13), 2147483647);
        due("RULES", p.count(5), 2);
        due("by it", p.ahead(0, 1, 0), 1);
        due("by it", p.ahead(0, 2, 0), 2);
    }

    @Sentence(of = "Promise 4", says = "how many TOWNS; -2 - its FAULT, and all stays.")
    static void roadsAnswer() {
        for (int n = 0; n <= 8; n++) roadsAre("roads 1" + times(";town", n), n);
        ProxyWalk p = on(RING, SEEKER);
        p.take(0, 0);
        p.day();
        p.log(1, 0, 0);
        p.seed(8);
        String before = state(p);
        String[] wrong = {"", "x", "roads 1;town;town;town;wax", "roads 9;town;town;way 0 1 1;shop 1 7;sentence 0 1 1;walker 3;walker 300"};
        int[] due = {fault(0, 0), fault(0, 0), fault(23, 0), fault(wrong[3].length() - 3, 1)};
        for (int i = 0; i < wrong.length; i++) {
            due("roads of '" + wrong[i] + "'", roads(p, wrong[i]), due[i]);
            due("all stays", before.equals(state(p)), true);
            due("undo stays", p.count(12), 2);
        }
        due("undo", p.undo(), 1);
        ProxyWalk q = new ProxyWalk();
        due("a fault without ROADS", roads(q, "roads"), fault(5, 0));
        due("without ROADS still", q.day(), NONE);
    }

    @Sentence(of = "Promise 5", says = "The TAPE, which is empty then, is a RULE: its number;")
    static void ruleNumbers() {
        ProxyWalk p = new ProxyWalk();
        for (int i = 0; i < 6; i++) {
            due("rule", rule(p, "go " + i), i);
            due("the TAPE is empty", p.count(14), 0);
            due("RULES", p.count(5), i + 1);
            due("none IN FORCE", p.count(6), NONE);
        }
    }

    @Sentence(of = "Promise 5", says = "-2 - its FAULT;")
    static void ruleFaults() {
        ProxyWalk p = on("roads 0;town;town;way 0 1 1;walker 0", "go 1");
        due("a fault", rule(p, "go 0 if 1"), fault(9, 0));
        due("the TAPE is empty", p.count(14), 0);
        due("no RULE more", p.count(5), 1);
        due("no such RULE", p.force(1), -2);
        due("of an empty TAPE", p.rule(), fault(0, 0));
        due("the RULE there was", p.ahead(0, 1, 0), 1);
        for (int i = 0; i < 20; i++) due("a fault", rule(p, "go town*days+1 if " + times("1=2 or ", 15) + "x"), fault(18 + 105, 0));
        due("the next", rule(p, "go 0 if day=0;go town"), 1);
        p.force(1);
        due("is as told", p.ahead(0, 1, 0), 0);
        due("is as told", p.ahead(0, 2, 0), 1);
        due("a fault", rule(p, "go 1+1+1;x"), fault(9, 0));
        due("the next", rule(p, "go 1 if 1=1"), 2);
        p.force(2);
        due("has nothing of the text that had a fault", p.ahead(0, 1, 0), 1);
    }

    @Sentence(of = "Promise 5", says = "NONE, and nothing happens: there are 6.")
    static void ruleSeventh() {
        ProxyWalk p = on(PAIR, "go 1", "go 2", "go 3", "go 4", "go 5", "go 0");
        for (String text : new String[] {"go 7", "go", "go 7;;", ""}) {
            tell(p, text);
            refused(p, "a seventh '" + text + "'", p::rule, NONE);
            due("the TAPE stays", p.count(14), text.length());
        }
        due("six", p.count(5), 6);
        p.force(5);
        due("the sixth is as it was", p.ahead(0, 1, 0), 0);
    }

    @Sentence(of = "Promise 6", says = "A RULE is IN FORCE (NONE: none): which was;")
    static void forceAnswers() {
        ProxyWalk p = on(PAIR);
        due("none of none", p.force(NONE), NONE);
        for (int i = 0; i < 6; i++) rule(p, "go 1 if day=" + i);
        int[] order = {0, 5, 5, NONE, NONE, 3, 0};
        int before = NONE;
        for (int r : order) {
            due("force(" + r + ")", p.force(r), before);
            due("count(6)", p.count(6), r);
            due("by it", p.ahead(0, 1, 0), r == 0 ? 1 : 0);
            before = r;
        }
        due("it is no ACT", p.count(12), 0);
    }

    @Sentence(of = "Promise 6", says = "-2, and nothing happens, if there is none such.")
    static void forceRefused() {
        ProxyWalk p = on(PAIR, "go 1", "go 0");
        refused(p, "force(2)", () -> p.force(2), -2);
        for (int r : FAR_OFF) refused(p, "force(" + r + ")", () -> p.force(r), -2);
        ProxyWalk q = new ProxyWalk();
        refused(q, "without RULES", () -> q.force(0), -2);
    }

    // ---- 7 to 9: what there is

    @Sentence(of = "Promise 7", says = "Of a SENTENCE what 0: TOWN, 1: DAY, 2: FEE, 3: whose (NONE), 4: 1 if SEALED, else 0, 5: 1 if PAID, else 0, 6: 1 if it was checked, else 0.")
    static void sentenceAnswers() {
        ProxyWalk p = on("roads 0;town;town;way 0 1 1;sentence 0 9 8;sentence 1 299 99;walker 0;walker 0", "go 1 if walker=1");
        sentence(p, 1, 1, 299, 99, NONE, 0, 0, 0);
        p.take(1, 1);
        sentence(p, 1, 1, 299, 99, 1, 0, 0, 0);
        p.day();
        sentence(p, 1, 1, 299, 99, 1, 1, 0, 0);
        p.check(1);
        sentence(p, 1, 1, 299, 99, 1, 1, 0, 1);
        p.day();
        sentence(p, 1, 1, 299, 99, NONE, 1, 1, 1);
        sentence(p, 0, 0, 9, 8, NONE, 0, 0, 0);
    }

    private static void sentence(ProxyWalk p, int s, int... due) {
        for (int what = 0; what < 7; what++) due("sentence(" + s + ", " + what + ")", p.sentence(s, what), due[what]);
    }

    @Sentence(of = "Promise 7", says = "-2 without these.")
    static void sentenceWithout() {
        ProxyWalk p = on(PAIR);
        due("sentence 1", p.sentence(1, 0), -2);
        due("sentence -1", p.sentence(NONE, 0), -2);
        due("what 7", p.sentence(0, 7), -2);
        due("what -1", p.sentence(0, -1), -2);
        for (int far : FAR_OFF) {
            due("sentence " + far, p.sentence(far, 3), -2);
            due("what " + far, p.sentence(0, far), -2);
        }
        due("a seventh", on("roads 0;town" + times(";sentence 0 0 0", 6)).sentence(6, 0), -2);
        due("without ROADS", new ProxyWalk().sentence(0, 0), -2);
    }

    @Sentence(of = "Promise 8", says = "Of a WALKER what 0: the TOWN they are in, or go to, 1: DAYS to go (0: they are there), 2: PURSE, 3: the first DAY on which they may TAKE again (0 at first), 4: their SENTENCES, as bits.")
    static void walkerAnswers() {
        ProxyWalk p = on("roads 3;town;town;shop 0 2;way 0 1 2;sentence 1 9 5;sentence 0 9 7;sentence 0 0 9;walker 8;walker 6", "go 1 if walker=0 and day>1");
        walker(p, 0, 0, 0, 8, 0, 0);
        p.take(0, 0);
        p.take(0, 2);
        walker(p, 0, 0, 0, 8, 0, 5);
        p.shell(0, 2);
        walker(p, 0, 0, 0, 6, 0, 5);
        p.day();
        walker(p, 0, 0, 0, 15, 0, 1);
        p.check(2);
        walker(p, 0, 0, 0, 6, 4, 1);
        days(p, 2);
        walker(p, 0, 1, 1, 6, 4, 1);
        p.day();
        walker(p, 0, 1, 0, 6, 4, 1);
        p.day();
        walker(p, 0, 0, 1, 6, 4, 1);
        walker(p, 1, 0, 0, 6, 0, 0);
        p.day();
        walker(p, 0, 0, 0, 11, 4, 0);
    }

    private static void walker(ProxyWalk p, int w, int... due) {
        for (int what = 0; what < 5; what++) due("walker(" + w + ", " + what + ")", p.walker(w, what), due[what]);
    }

    @Sentence(of = "Promise 8", says = "NONE without these.")
    static void walkerWithout() {
        ProxyWalk p = on(PAIR);
        due("walker 1", p.walker(1, 2), NONE);
        due("walker -1", p.walker(NONE, 2), NONE);
        due("what 5", p.walker(0, 5), NONE);
        due("what -1", p.walker(0, -1), NONE);
        for (int far : FAR_OFF) {
            due("walker " + far, p.walker(far, 2), NONE);
            due("what " + far, p.walker(0, far), NONE);
        }
        due("a fourth", on(LINE).walker(3, 0), NONE);
        due("without ROADS", new ProxyWalk().walker(0, 0), NONE);
    }

    @Sentence(of = "Promise 9", says = "PRICE in a TOWN (0: no shop);")
    static void shopAnswers() {
        ProxyWalk p = on("roads 0;town;town;town;shop 2 99;shop 0 1");
        due("home", p.shop(0), 1);
        due("no shop", p.shop(1), 0);
        due("the last", p.shop(2), 99);
    }

    @Sentence(of = "Promise 9", says = "NONE without it.")
    static void shopWithout() {
        ProxyWalk p = on("roads 0;town;town;shop 1 5");
        due("town 2", p.shop(2), NONE);
        due("town -1", p.shop(NONE), NONE);
        for (int far : FAR_OFF) due("town " + far, p.shop(far), NONE);
        due("a ninth", on("roads 0" + times(";town", 8)).shop(8), NONE);
        due("without ROADS", new ProxyWalk().shop(0), NONE);
    }

    // ---- 10 to 16: ACTS

    @Sentence(of = "Promise 10", says = "A DAY: how many SENTENCES are SEALED on it;")
    static void dayAnswers() {
        ProxyWalk p = on("roads 0;town;town;shop 0 1;way 0 1 1;sentence 1 9 1;sentence 1 9 1;sentence 1 9 1;sentence 0 0 1;sentence 0 2 1;sentence 1 9 1;"
            + "walker 5;walker 5;walker 5", "go 1 if walker<2");
        p.take(0, 0);
        p.take(0, 1);
        p.take(1, 2);
        p.take(2, 3);
        p.take(1, 5);
        p.shell(1, 5);
        due("four of three walkers, the shell not counted", p.day(), 4);
        due("DAY", p.count(7), 1);
        due("paid, none sealed", p.day(), 0);
        p.take(2, 4);
        due("one", p.day(), 1);
        due("all six of one", all6().day(), 6);
        due("without TOWNS", on("roads 0").day(), 0);
        due("without WALKERS", on("roads 0;town").day(), 0);
    }

    private static ProxyWalk all6() {
        ProxyWalk p = on("roads 0;town" + times(";sentence 0 0 1", 6) + ";walker 0");
        for (int s = 0; s < 6; s++) due("take", p.take(0, s), s + 1);
        return p;
    }

    @Sentence(of = "Promise 10", says = "NONE, and nothing happens, without ROADS, or at DAY 999.")
    static void dayRefused() {
        ProxyWalk p = new ProxyWalk();
        refused(p, "without ROADS", p::day, NONE);
        roads(p, "x");
        refused(p, "behind a FAULT", p::day, NONE);
        // It takes more than 512 calls to come there; the class keeps to it all the same.
        ProxyWalk q = on("roads 0;town;town;way 0 1 1;walker 0", "go 1");
        for (int d = 0; d < 998; d++) q.day();
        due("at 998", q.day(), 0);
        due("DAY", q.count(7), 999);
        refused(q, "at 999", q::day, NONE);
    }

    @Sentence(of = "Promise 11", says = "TAKE: how many they have then;")
    static void takeAnswers() {
        all6();
        ProxyWalk p = on(LINE);
        due("one", p.take(0, 1), 1);
        due("one of another", p.take(2, 0), 1);
        due("theirs", p.walker(0, 4), 2);
        due("theirs", p.walker(2, 4), 1);
        due("ACTS", p.count(12), 2);
    }

    @Sentence(of = "Promise 11", says = "NONE, and nothing happens, without these.")
    static void takeRefused() {
        ProxyWalk p = on(LINE, "go town if day=0");
        without(p, (w, s) -> p.take(w, s), 3, 2);
        p.take(1, 1);
        refused(p, "somebody's", () -> p.take(0, 1), NONE);
        p.day();
        refused(p, "not at home", () -> p.take(0, 0), NONE);
        ProxyWalk q = new ProxyWalk();
        refused(q, "without ROADS", () -> q.take(0, 0), NONE);
    }

    /** A call of a WALKER and a SENTENCE. */
    private interface OfTwo {
        int ask(int walker, int sentence);
    }

    /** Refused for the first WALKER and SENTENCE that are not there, and for those far off. */
    private static void without(ProxyWalk p, OfTwo call, int walkers, int sentences) {
        refused(p, "walker " + walkers, () -> call.ask(walkers, 0), NONE);
        refused(p, "walker -1", () -> call.ask(-1, 0), NONE);
        refused(p, "sentence " + sentences, () -> call.ask(0, sentences), NONE);
        refused(p, "sentence -1", () -> call.ask(0, -1), NONE);
        for (int far : FAR_OFF) {
            refused(p, "walker " + far, () -> call.ask(far, 0), NONE);
            refused(p, "sentence " + far, () -> call.ask(0, far), NONE);
        }
    }

    @Sentence(of = "Promise 12", says = "GIVE BACK: how many they have then;")
    static void giveBackAnswers() {
        ProxyWalk p = all6();
        int[] order = {3, 0, 5, 1, 4, 2};
        for (int i = 0; i < 6; i++) {
            due("giveBack", p.giveBack(0, order[i]), 5 - i);
            due("nobody's", p.sentence(order[i], 3), NONE);
        }
        due("ACTS", p.count(12), 12);
        due("undone", p.undo(), 11);
        due("theirs", p.walker(0, 4), 4);
    }

    @Sentence(of = "Promise 12", says = "NONE, and nothing happens, without these.")
    static void giveBackRefused() {
        ProxyWalk p = on(LINE, "go town if day=0");
        refused(p, "nobody's", () -> p.giveBack(0, 0), NONE);
        p.take(0, 0);
        without(p, (w, s) -> p.giveBack(w, s), 3, 2);
        refused(p, "another's", () -> p.giveBack(1, 0), NONE);
        p.day();
        refused(p, "not at home", () -> p.giveBack(0, 0), NONE);
        ProxyWalk q = new ProxyWalk();
        refused(q, "without ROADS", () -> q.giveBack(0, 0), NONE);
    }

    @Sentence(of = "Promise 13", says = "SWAP (unlike ones);")
    static void swapUnlike() {
        ProxyWalk p = on(LINE);
        p.take(0, 0);
        p.take(2, 1);
        for (int w = 0; w < 3; w++) {
            int same = w;
            refused(p, "with themselves", () -> p.swap(same, same) ? 1 : 0, 0);
        }
        due("0 and 2", p.swap(0, 2), true);
        due("of 0", p.walker(0, 4), 2);
        due("of 2", p.walker(2, 4), 1);
        due("1 and 0", p.swap(1, 0), true);
        due("of 0", p.walker(0, 4), 0);
        due("of 1", p.walker(1, 4), 2);
        due("ACTS", p.count(12), 4);
    }

    @Sentence(of = "Promise 13", says = "false, and nothing happens, without these.")
    static void swapRefused() {
        ProxyWalk p = on(LINE, "go 1 if walker=0");
        p.take(0, 0);
        for (int w : new int[] {3, -1, -2, 100, Integer.MAX_VALUE, Integer.MIN_VALUE}) {
            refused(p, "walker " + w, () -> p.swap(0, w) ? 1 : 0, 0);
            refused(p, "walker " + w, () -> p.swap(w, 0) ? 1 : 0, 0);
            refused(p, "walker " + w, () -> p.swap(w, w) ? 1 : 0, 0);
        }
        p.day();
        refused(p, "in two towns", () -> p.swap(0, 1) ? 1 : 0, 0);
        ProxyWalk q = new ProxyWalk();
        refused(q, "without ROADS", () -> q.swap(0, 1) ? 1 : 0, 0);
    }

    @Sentence(of = "Promise 14", says = "SHELL: the PURSE then;")
    static void shellAnswers() {
        ProxyWalk p = on("roads 0;town;shop 0 33" + times(";sentence 0 0 1", 4) + ";walker 99");
        for (int s = 0; s < 4; s++) p.take(0, s);
        due("66", p.shell(0, 0), 66);
        due("33", p.shell(0, 1), 33);
        due("0", p.shell(0, 2), 0);
        refused(p, "no more", () -> p.shell(0, 3), NONE);
        due("ACTS", p.count(12), 7);
        due("undone", p.undo(), 6);
        due("33", p.walker(0, 2), 33);
        due("not sealed", p.count(8), 3);
    }

    @Sentence(of = "Promise 14", says = "NONE, and nothing happens, without these.")
    static void shellRefused() {
        ProxyWalk p = on("roads 3;town;town;shop 0 4;way 0 1 1;sentence 1 9 5;sentence 0 9 5;walker 4;walker 3;walker 9", "go 1");
        refused(p, "nobody's", () -> p.shell(0, 0), NONE);
        p.take(0, 0);
        without(p, (w, s) -> p.shell(w, s), 3, 2);
        refused(p, "another's", () -> p.shell(2, 0), NONE);
        p.take(1, 1);
        refused(p, "too dear", () -> p.shell(1, 1), NONE);
        p.day();
        p.swap(0, 1);
        refused(p, "no shop", () -> p.shell(0, 1), NONE);
        refused(p, "sealed", () -> p.shell(1, 0), NONE);
        ProxyWalk q = new ProxyWalk();
        refused(q, "without ROADS", () -> q.shell(0, 0), NONE);
    }

    @Sentence(of = "Promise 15", says = "CHECK: 1 if it was falsely, else 0;")
    static void checkAnswers() {
        ProxyWalk p = on("roads 0;town;shop 0 1;sentence 0 5 2;sentence 0 5 3;walker 9");
        p.take(0, 0);
        p.take(0, 1);
        p.shell(0, 0);
        due("falsely, not paid", p.check(0), 1);
        p.undo();
        p.day();
        due("falsely, paid", p.check(0), 1);
        due("rightly, paid", p.check(1), 0);
        due("ACTS", p.count(12), 6);
        due("undone", p.undo(), 5);
        due("not checked", p.sentence(1, 6), 0);
    }

    @Sentence(of = "Promise 15", says = "NONE, and nothing happens, without these.")
    static void checkRefused() {
        ProxyWalk p = on(PAIR, "go 1");
        refused(p, "not sealed", () -> p.check(0), NONE);
        refused(p, "sentence 1", () -> p.check(1), NONE);
        refused(p, "sentence -1", () -> p.check(-1), NONE);
        for (int far : FAR_OFF) refused(p, "sentence " + far, () -> p.check(far), NONE);
        p.take(0, 0);
        p.day();
        // A number that is 0 but for its high bits is another one.
        for (int off : new int[] {32, -32, 64, 256, 1 << 16}) refused(p, "sentence " + off, () -> p.check(off), NONE);
        p.check(0);
        refused(p, "checked", () -> p.check(0), NONE);
        ProxyWalk q = new ProxyWalk();
        refused(q, "without ROADS", () -> q.check(0), NONE);
    }

    @Sentence(of = "Promise 16", says = "The last ACT is UNDONE: how many more can be;")
    static void undoAnswers() {
        ProxyWalk p = on(PAIR, "go 1 if day>0");
        String[] states = new String[5];
        for (int i = 0; i < 5; i++) {
            states[i] = state(p);
            if (i == 0) p.take(0, 0);
            else if (i == 1) p.shell(0, 0);
            else if (i == 3) p.check(0);
            else p.day();
        }
        for (int i = 4; i >= 0; i--) {
            due("undo", p.undo(), i);
            due("as it was", state(p).equals(states[i]), true);
        }
        for (int i = 0; i < 21; i++) p.day();
        for (int i = 19; i >= 0; i--) due("undo of 20", p.undo(), i);
        due("DAY", p.count(7), 1);
        p.day();
        due("one more ACT", p.count(12), 1);
        due("undo", p.undo(), 0);
    }

    @Sentence(of = "Promise 16", says = "-2, and nothing happens: none can.")
    static void undoRefused() {
        ProxyWalk p = new ProxyWalk();
        refused(p, "on a new object", p::undo, -2);
        roads(p, PAIR);
        rule(p, "go 1");
        p.force(0);
        p.seed(4);
        p.log(0, 0, 0);
        p.image(0);
        refused(p, "without ACTS", p::undo, -2);
        p.take(5, 5);
        p.check(0);
        refused(p, "refused calls are none", p::undo, -2);
        p.day();
        p.undo();
        refused(p, "all are undone", p::undo, -2);
        for (int i = 0; i < 25; i++) p.day();
        for (int i = 0; i < 20; i++) p.undo();
        refused(p, "20 are undone", p::undo, -2);
        due("DAY", p.count(7), 5);
    }

    // ---- 17 to 25: what is asked

    @Sentence(of = "Promise 17", says = "AHEAD what 0: the TOWN (NONE: on a WAY), 1: PURSE, 2: PAID ones (of no WALKER).")
    static void aheadAnswers() {
        ProxyWalk p = on("roads 0;town;town;way 0 1 2;sentence 1 9 5;walker 3;walker 4", "go 1 if walker=0");
        p.take(0, 0);
        int[][] due = {{0, 3, 0}, {NONE, 3, 0}, {1, 3, 0}, {NONE, 3, 0}, {0, 8, 1}};
        for (int n = 0; n < 5; n++) for (int what = 0; what < 3; what++) due("ahead(0, " + n + ", " + what + ")", p.ahead(0, n, what), due[n][what]);
        for (int w : new int[] {0, 1, 2, -1, Integer.MAX_VALUE, Integer.MIN_VALUE}) due("of no WALKER", p.ahead(w, 4, 2), 1);
        due("without WALKERS", on("roads 0;town").ahead(0, 100, 2), 0);
    }

    @Sentence(of = "Promise 17", says = "-2 without these, or ROADS.")
    static void aheadWithout() {
        ProxyWalk p = on(RING);
        for (int what = 0; what < 2; what++) {
            due("walker 2", p.ahead(2, 0, what), -2);
            due("walker -1", p.ahead(-1, 0, what), -2);
            for (int far : FAR_OFF) due("walker " + far, p.ahead(far, 0, what), -2);
        }
        for (int what = 0; what < 3; what++) {
            due("n 101", p.ahead(0, 101, what), -2);
            due("n -1", p.ahead(0, -1, what), -2);
            due("n", p.ahead(0, Integer.MAX_VALUE, what), -2);
            due("n", p.ahead(0, Integer.MIN_VALUE, what), -2);
            due("without ROADS", new ProxyWalk().ahead(0, 0, what), -2);
        }
        due("what 3", p.ahead(0, 0, 3), -2);
        due("what -1", p.ahead(0, 0, -1), -2);
        for (int far : FAR_OFF) due("what " + far, p.ahead(0, 0, far), -2);
    }

    @Sentence(of = "Promise 18", says = "WAY what 0: DAYS, 1: the next TOWN (NONE: it is there); -2: there is none.")
    static void wayAnswers() {
        ProxyWalk p = on("roads 0;town;town;town;town;way 0 1 9;way 1 2 8");
        due("DAYS", p.way(0, 2, 0), 17);
        due("next", p.way(0, 2, 1), 1);
        due("next", p.way(2, 0, 1), 1);
        for (int t = 0; t < 4; t++) {
            due("DAYS: it is there", p.way(t, t, 0), 0);
            due("next: it is there", p.way(t, t, 1), NONE);
        }
        for (int t = 0; t < 3; t++) for (int what = 0; what < 2; what++) {
            due("there is none", p.way(t, 3, what), -2);
            due("there is none", p.way(3, t, what), -2);
        }
    }

    @Sentence(of = "Promise 18", says = "-3 without these.")
    static void wayWithout() {
        ProxyWalk p = on(RING);
        for (int what = 0; what < 2; what++) {
            for (int t : new int[] {4, -1, 8, 100, Integer.MAX_VALUE, Integer.MIN_VALUE}) {
                due("from " + t, p.way(t, 0, what), -3);
                due("to " + t, p.way(0, t, what), -3);
                due("both " + t, p.way(t, t, what), -3);
            }
            due("without ROADS", new ProxyWalk().way(0, 0, what), -3);
        }
        for (int what : new int[] {2, -1, -3, Integer.MAX_VALUE, Integer.MIN_VALUE}) due("what " + what, p.way(0, 1, what), -3);
    }

    @Sentence(of = "Promise 19", says = "MEET; -2: in none of these;")
    static void meetAnswers() {
        ProxyWalk p = on("roads 0;town;town;way 0 1 1;walker 0;walker 0;walker 0", "go 1 if walker=0 or day=0 and walker=2");
        due("now", p.meet(0, 1), 0);
        p.day();
        due("now in town 1", p.meet(0, 2), 1);
        due("a day on", p.meet(0, 1), 2);
        due("in none", p.meet(1, 2), -2);
        due("in none", p.meet(2, 1), -2);
    }

    @Sentence(of = "Promise 19", says = "NONE without these (unlike ones).")
    static void meetWithout() {
        ProxyWalk p = on(RING);
        for (int w = 0; w < 2; w++) due("alike", p.meet(w, w), NONE);
        for (int w : new int[] {2, -1, 3, Integer.MAX_VALUE, Integer.MIN_VALUE}) {
            due("walker " + w, p.meet(0, w), NONE);
            due("walker " + w, p.meet(w, 0), NONE);
        }
        due("one WALKER", on(PAIR).meet(0, 1), NONE);
        due("without ROADS", new ProxyWalk().meet(0, 1), NONE);
    }

    @Sentence(of = "Promise 20", says = "ROUND what 0: FEES, 1: the set, 2: DAYS; -2: there is no way home.")
    static void roundAnswers() {
        ProxyWalk p = on(RING);
        due("FEES", p.round(0, 0), 27);
        due("the set", p.round(0, 1), 3);
        due("DAYS", p.round(0, 2), 10);
        // Whoever began at home has a way back, so that -2 is never due, wherever they go.
        ProxyWalk q = on("roads 0;town;town;town;town;town;way 0 3 2;way 3 1 1;way 4 2 1;walker 0", "go 1");
        for (int d = 0; d < 12; d++) {
            boolean there = q.walker(0, 1) == 0;
            due("there is a way home on day " + d, q.round(0, 2), there ? q.way(q.walker(0, 0), 0, 0) : -3);
            q.day();
        }
    }

    @Sentence(of = "Promise 20", says = "-3 without these (a WALKER in a TOWN).")
    static void roundWithout() {
        ProxyWalk p = on(RING, "go 1 if walker=0");
        for (int what = 0; what < 3; what++) {
            for (int w : new int[] {2, -1, 3, Integer.MAX_VALUE, Integer.MIN_VALUE}) due("walker " + w, p.round(w, what), -3);
            due("without ROADS", new ProxyWalk().round(0, what), -3);
        }
        for (int what : new int[] {3, -1, -3, Integer.MAX_VALUE, Integer.MIN_VALUE}) due("what " + what, p.round(0, what), -3);
        p.day();
        for (int what = 0; what < 3; what++) due("on a WAY", p.round(0, what), -3);
        due("the other one is not", p.round(1, 0) >= 0, true);
    }

    @Sentence(of = "Promise 21", says = "PARTED what 0: FEES, 1 to 6: whose the SENTENCE less 1 is (NONE: nobody's; -2: there is none such).")
    static void partedAnswers() {
        ProxyWalk p = on("roads 0;town;town;town;way 0 1 2;way 0 2 2;sentence 1 1 5;sentence 2 1 6;sentence 2 0 7;walker 0;walker 0");
        int[] due = {11, 0, 1, NONE, -2, -2, -2};
        for (int what = 0; what < 7; what++) due("parted(" + what + ")", p.parted(what), due[what]);
        ProxyWalk six = on("roads 0;town" + times(";sentence 0 0 3", 6) + ";walker 0");
        due("FEES", six.parted(0), 18);
        for (int what = 1; what < 7; what++) due("parted(" + what + ")", six.parted(what), 0);
        ProxyWalk none = on("roads 0");
        due("FEES of none", none.parted(0), 0);
        for (int what = 1; what < 7; what++) due("parted(" + what + ") of none", none.parted(what), -2);
    }

    @Sentence(of = "Promise 21", says = "-3 for others, or without ROADS.")
    static void partedWithout() {
        ProxyWalk p = on(RING);
        for (int what : new int[] {7, -1, 8, -3, Integer.MAX_VALUE, Integer.MIN_VALUE}) due("what " + what, p.parted(what), -3);
        for (int what = -1; what < 8; what++) due("without ROADS", new ProxyWalk().parted(what), -3);
    }

    @Sentence(of = "Promise 22", says = "SEALS what 0: how many, 1: the set (no way from home: 0);")
    static void sealsAnswers() {
        ProxyWalk p = on("roads 0;town;town;town;town;town;way 0 1 1;way 0 2 1;way 1 3 1;way 2 3 1;shop 3 1;shop 4 1");
        due("how many", p.seals(3, 0), 2);
        due("the set", p.seals(3, 1), 6);
        due("no way from home: how many", p.seals(4, 0), 0);
        due("no way from home: the set", p.seals(4, 1), 0);
        ProxyWalk q = on("roads 0;town;town");
        due("no way, no shop: how many", q.seals(1, 0), 0);
        due("no way, no shop: the set", q.seals(1, 1), 0);
    }

    @Sentence(of = "Promise 22", says = "-2: by none.")
    static void sealsByNone() {
        ProxyWalk p = on("roads 0;town;town;town;way 0 1 1;way 1 2 1;shop 1 1;shop 2 1");
        for (int what = 0; what < 2; what++) {
            due("town 1", p.seals(1, what), -2);
            due("town 2", p.seals(2, what), -2);
        }
    }

    @Sentence(of = "Promise 22", says = "NONE without these (a TOWN that is not home).")
    static void sealsWithout() {
        ProxyWalk p = on(RING);
        for (int what = 0; what < 2; what++) {
            for (int t : new int[] {0, 4, -1, 8, Integer.MAX_VALUE, Integer.MIN_VALUE}) due("town " + t, p.seals(t, what), NONE);
            due("without ROADS", new ProxyWalk().seals(1, what), NONE);
        }
        for (int what : new int[] {2, -1, -2, Integer.MAX_VALUE, Integer.MIN_VALUE}) due("what " + what, p.seals(2, what), NONE);
    }

    @Sentence(of = "Promise 23", says = "SAVES; -1000 without that SENTENCE, a way to its TOWN, or a shop that can be come to.")
    static void savesAnswers() {
        ProxyWalk p = on("roads 0;town;town;town;way 0 1 9;shop 0 1;sentence 1 0 0;sentence 2 0 0");
        due("SAVES", p.saves(0), 18);
        due("no way to its TOWN", p.saves(1), -1000);
        due("no SENTENCE", p.saves(2), -1000);
        due("no SENTENCE", p.saves(-1), -1000);
        for (int far : FAR_OFF) due("no SENTENCE", p.saves(far), -1000);
        due("no shop", on("roads 0;town;town;way 0 1 9;sentence 1 0 0").saves(0), -1000);
        due("no shop that can be come to", on("roads 0;town;town;town;way 0 1 9;shop 2 1;sentence 1 0 0").saves(0), -1000);
        due("without ROADS", new ProxyWalk().saves(0), -1000);
        ProxyWalk q = on("roads 0" + times(";town", 8) + ";way 0 1 9;way 1 2 9;way 2 3 9;way 3 4 9;way 4 5 9;way 5 6 9;way 6 7 9;shop 7 1;sentence 0 0 0");
        due("the most that is lost", q.saves(0), -126);
    }

    @Sentence(of = "Promise 24", says = "OWED; NONE without these.")
    static void owedAnswers() {
        ProxyWalk p = on("roads 0;town;town;town;way 0 1 1;way 1 2 1;sentence 2 9 99;walker 0;walker 0", "go town");
        refusedOwed(p);
        due("nobody's", p.owed(0, 0), NONE);
        p.take(0, 0);
        due("at home", p.owed(0, 0), 0);
        p.day();
        due("99 / 2", p.owed(0, 0), 49);
        due("another's", p.owed(1, 0), NONE);
        refusedOwed(p);
        due("without ROADS", new ProxyWalk().owed(0, 0), NONE);
    }

    private static void refusedOwed(ProxyWalk p) {
        without(p, (w, s) -> p.owed(w, s), 2, 1);
    }

    @Sentence(of = "Promise 25", says = "CHOOSE what 0: the SENTENCE (NONE: none), 1: how much.")
    static void chooseAnswers() {
        ProxyWalk p = on("roads 0;town;sentence 0 0 5;sentence 0 0 7;walker 3");
        due("the SENTENCE", p.choose(0, 1, 0), 1);
        due("how much", p.choose(0, 1, 1), 10);
        p.day();
        due("none", p.choose(0, 1, 0), NONE);
        due("how much", p.choose(0, 1, 1), 3);
    }

    @Sentence(of = "Promise 25", says = "-2 without these (a WALKER in TOWN 0 who is not BANNED).")
    static void chooseWithout() {
        ProxyWalk p = on("roads 2;town;town;shop 0 1;way 0 1 2;sentence 0 9 5;walker 3;walker 3", "go 1 if walker=1");
        for (int what = 0; what < 2; what++) {
            for (int w : new int[] {2, -1, 3, Integer.MAX_VALUE, Integer.MIN_VALUE}) due("walker " + w, p.choose(w, 1, what), -2);
            for (int n : new int[] {0, 101, -1, Integer.MAX_VALUE, Integer.MIN_VALUE}) due("n " + n, p.choose(0, n, what), -2);
            due("without ROADS", new ProxyWalk().choose(0, 1, what), -2);
        }
        for (int what : new int[] {2, -1, Integer.MAX_VALUE, Integer.MIN_VALUE}) due("what " + what, p.choose(0, 1, what), -2);
        p.take(0, 0);
        p.shell(0, 0);
        p.check(0);
        due("BANNED", p.choose(0, 1, 0), -2);
        p.day();
        due("BANNED", p.choose(0, 1, 0), -2);
        due("on the way out", p.choose(1, 1, 0), -2);
        p.day();
        due("not BANNED", p.choose(0, 1, 0), 0);
        due("in TOWN 1", p.choose(1, 1, 0), -2);
        p.day();
        due("on the way home", p.choose(1, 1, 0), -2);
    }

    // ---- 26 to 30: LOGS, DRAWS

    @Sentence(of = "Promise 26", says = "A LOG (n NONE: there are none then, 0; TOWN NONE: on a WAY): how many;")
    static void logAnswers() {
        ProxyWalk p = on("roads 0;town;town;way 0 1 2;walker 0", "go 1");
        due("none to begin with", p.log(NONE, 0, 0), 0);
        due("on a WAY", p.log(0, 0, NONE), 1);
        due("by rule 0", p.ruled(1), 0);
        due("in a TOWN", p.log(1, 0, 1), 2);
        due("by rule 0", p.ruled(1), 0);
        due("LOGS", p.count(11), 2);
        due("it is no ACT", p.count(12), 0);
        for (int far : new int[] {0, -1, 9, Integer.MAX_VALUE, Integer.MIN_VALUE}) {
            p.log(0, 0, 0);
            due("none, whatever else", p.log(NONE, far, far), 0);
            due("LOGS", p.count(11), 0);
            due("all is so", p.ruled(0), 2);
        }
        due("from 1 again", p.log(60, 0, 0), 1);
        due("without ROADS", new ProxyWalk().log(NONE, 0, 0), 0);
    }

    @Sentence(of = "Promise 26", says = "-2, and nothing happens, without these, or if there are 10.")
    static void logRefused() {
        ProxyWalk p = on(RING);
        p.log(0, 0, 0);
        for (int n : new int[] {61, -2, 100, Integer.MAX_VALUE, Integer.MIN_VALUE}) refused(p, "n " + n, () -> p.log(n, 0, 0), -2);
        for (int w : new int[] {2, -1, 3, Integer.MAX_VALUE, Integer.MIN_VALUE}) refused(p, "walker " + w, () -> p.log(0, w, 0), -2);
        for (int t : new int[] {4, -2, 8, Integer.MAX_VALUE, Integer.MIN_VALUE}) refused(p, "town " + t, () -> p.log(0, 0, t), -2);
        for (int i = 2; i <= 10; i++) due("log", p.log(0, 0, 0), i);
        refused(p, "an eleventh", () -> p.log(0, 0, 1), -2);
        due("none then", p.log(NONE, 0, 0), 0);
        due("the first", p.log(0, 0, 1), 1);
        ProxyWalk q = new ProxyWalk();
        refused(q, "without ROADS", () -> q.log(0, 0, NONE), -2);
    }

    @Sentence(of = "Promise 27", says = "RULED what 0: how many, 1: the first (NONE: none; -2: there is none such).")
    static void ruledAnswers() {
        ProxyWalk p = on("roads 0;town;town;way 0 1 1;walker 0", "go 1", "go 0", "go 1", "go 0", "go 1", "go 1");
        due("how many", p.ruled(0), 7);
        due("none", p.ruled(1), NONE);
        p.log(0, 0, 1);
        due("how many", p.ruled(0), 4);
        due("the first", p.ruled(1), 0);
        p.log(0, 0, 0);
        due("how many", p.ruled(0), 0);
        due("there is none such", p.ruled(1), -2);
    }

    @Sentence(of = "Promise 27", says = "-3 for others, or without ROADS.")
    static void ruledWithout() {
        ProxyWalk p = on(RING);
        for (int what : new int[] {2, -1, -3, Integer.MAX_VALUE, Integer.MIN_VALUE}) due("what " + what, p.ruled(what), -3);
        for (int what = -1; what < 3; what++) due("without ROADS", new ProxyWalk().ruled(what), -3);
        due("without TOWNS", on("roads 0").ruled(0), 1);
    }

    @Sentence(of = "Promise 28", says = "LOOK (n 0 to 60) what 0: the WALKER, 1: how many;")
    static void lookAnswers() {
        ProxyWalk p = on("roads 0;town;town;way 0 1 1;walker 0;walker 0", "go 1 if walker=1 and day=0", "go 1 if day=60");
        due("n 0: the WALKER", p.look(0, 0), 1);
        due("n 0: how many", p.look(0, 1), 2);
        due("n 59: the WALKER", p.look(59, 0), 1);
        due("n 60: the WALKER", p.look(60, 0), 0);
        due("n 60: how many", p.look(60, 1), 2);
    }

    @Sentence(of = "Promise 28", says = "-2: no RULE is so, or there are no WALKERS.")
    static void lookAtNothing() {
        ProxyWalk p = on("roads 0;town;town;way 0 1 1;walker 0", "go 1");
        p.log(0, 0, NONE);
        for (int what = 0; what < 2; what++) {
            due("none is so", p.look(0, what), -2);
            due("none is so", p.look(60, what), -2);
            due("no WALKERS", on("roads 0;town", "go 1").look(0, what), -2);
            due("no WALKERS", on("roads 0").look(60, what), -2);
        }
        p.log(NONE, 0, 0);
        p.log(0, 0, 0);
        due("none alone", p.look(0, 0), 0);
        due("none alone", p.look(0, 1), 1);
    }

    @Sentence(of = "Promise 28", says = "NONE without these, or ROADS.")
    static void lookWithout() {
        ProxyWalk p = on(RING);
        for (int what = 0; what < 2; what++) {
            for (int n : new int[] {61, -1, -2, Integer.MAX_VALUE, Integer.MIN_VALUE}) due("n " + n, p.look(n, what), NONE);
            due("without ROADS", new ProxyWalk().look(0, what), NONE);
        }
        for (int what : new int[] {2, -1, Integer.MAX_VALUE, Integer.MIN_VALUE}) due("what " + what, p.look(0, what), NONE);
        due("without WALKERS, n 61", on("roads 0").look(61, 0), NONE);
        due("without WALKERS, what 2", on("roads 0").look(0, 2), NONE);
    }

    @Sentence(of = "Promise 29", says = "x becomes a number: what it was;")
    static void seedAnswers() {
        ProxyWalk p = new ProxyWalk();
        int before = 0;
        for (int x : new int[] {2147483647, 0, 1, 65536, 2147483646, 0}) {
            due("seed(" + x + ")", p.seed(x), before);
            due("x", p.count(13), x);
            before = x;
        }
        due("it is no ACT", p.count(12), 0);
    }

    @Sentence(of = "Promise 29", says = "NONE, and nothing happens, below 0.")
    static void seedRefused() {
        ProxyWalk p = on(PAIR);
        p.seed(77);
        for (int x : new int[] {-1, -2, Integer.MIN_VALUE}) refused(p, "seed(" + x + ")", () -> p.seed(x), NONE);
        due("what it was", p.seed(0), 77);
    }

    @Sentence(of = "Promise 30", says = "YEARS what 0: how often, 1: PURSES.")
    static void yearsAnswers() {
        ProxyWalk p = on("roads 0;town;town;way 0 1 9;walker 6;walker 8", "go 1 if walker=1");
        due("how often", p.years(2, 3, 100, 0), 4);
        due("PURSES", p.years(2, 3, 100, 1), 12);
        due("how often", p.years(10, 60, 0, 0), 0);
        due("PURSES", p.years(10, 60, 0, 1), 140);
        due("without WALKERS", on("roads 0").years(10, 60, 100, 0), 0);
        due("without WALKERS", on("roads 0").years(10, 60, 100, 1), 0);
    }

    @Sentence(of = "Promise 30", says = "NONE without these, or ROADS.")
    static void yearsWithout() {
        ProxyWalk p = on(RING);
        for (int what = 0; what < 2; what++) {
            due("the edges", p.years(1, 1, 0, what) >= 0 && p.years(10, 60, 100, what) >= 0, true);
            for (int m : new int[] {0, 11, -1, Integer.MAX_VALUE, Integer.MIN_VALUE}) due("m " + m, p.years(m, 1, 0, what), NONE);
            for (int n : new int[] {0, 61, -1, Integer.MAX_VALUE, Integer.MIN_VALUE}) due("n " + n, p.years(1, n, 0, what), NONE);
            for (int per : new int[] {-1, 101, Integer.MAX_VALUE, Integer.MIN_VALUE}) due("p " + per, p.years(1, 1, per, what), NONE);
            due("without ROADS", new ProxyWalk().years(1, 1, 0, what), NONE);
        }
        for (int what : new int[] {2, -1, Integer.MAX_VALUE, Integer.MIN_VALUE}) due("what " + what, p.years(1, 1, 0, what), NONE);
    }

    // ---- 31 to 33: count, IMAGES

    @Sentence(of = "Promise 31", says = "What 0: BANNED, 1: TOWNS, 2: WAYS (told twice: once), 3: SENTENCES, 4: WALKERS, 5: RULES, 6: the RULE IN FORCE (NONE), 7: DAY, 8: SENTENCES that are SEALED, as bits, 9: that are PAID, as bits, 10: WALKERS who are in TOWNS, as bits, 11: LOGS, 12: ACTS that can be UNDONE, 13: x, 14: bytes of the TAPE.")
    static void countAnswers() {
        ProxyWalk p = on("roads 77;town;town;town;way 0 1 1;way 1 0 2;way 1 2 1;sentence 1 9 5;sentence 0 9 5;sentence 1 9 5;sentence 2 9 9;"
            + "walker 0;walker 0;walker 0", "go 1 if walker=2", "go 0");
        p.take(0, 1);
        p.take(2, 2);
        p.take(2, 0);
        p.day();
        p.log(1, 1, 1);
        p.log(1, 1, 1);
        p.seed(31);
        p.feed(0, 0, 0, 0, 0);
        p.end(19);
        counts(p, 77, 3, 2, 4, 3, 2, 0, 1, 2, 2, 3, 2, 4, 31, 19);
        p.day();
        counts(p, 77, 3, 2, 4, 3, 2, 0, 2, 7, 2, 7, 2, 5, 31, 19);
        p.force(NONE);
        roads(p, "roads 0");
        counts(p, 0, 0, 0, 0, 0, 2, NONE, 0, 0, 0, 0, 0, 0, 31, 0);
        ProxyWalk q = on("roads 0;town;town;town;town;town;town;town;town;way 0 1 1;way 1 0 1;way 0 7 1;way 7 6 1;way 6 7 2;way 0 7 2");
        due("WAYS told twice: once", q.count(2), 3);
    }

    private static void counts(ProxyWalk p, int... due) {
        for (int what = 0; what < 15; what++) due("count(" + what + ")", p.count(what), due[what]);
    }

    @Sentence(of = "Promise 31", says = "NONE for others.")
    static void countOthers() {
        for (ProxyWalk p : new ProxyWalk[] {new ProxyWalk(), on(RING)}) {
            for (int what : new int[] {15, -1, 16, -15, Integer.MAX_VALUE, Integer.MIN_VALUE}) due("count(" + what + ")", p.count(what), NONE);
        }
    }

    @Sentence(of = "Promise 32", says = "An IMAGE is made: the DAY; NONE without it.")
    static void imageAnswers() {
        ProxyWalk p = new ProxyWalk();
        due("without ROADS", p.image(3), 0);
        roads(p, PAIR);
        for (int d = 0; d < 6; d++) {
            due("the DAY", p.image(d % 2), d);
            p.day();
        }
        due("it is no ACT", p.count(12), 6);
        due("made over", p.back(0), 4);
        due("made over", p.back(1), 5);
        for (int k : new int[] {4, -1, -2, 5, Integer.MAX_VALUE, Integer.MIN_VALUE}) {
            refused(p, "image(" + k + ")", () -> p.image(k), NONE);
            refused(p, "back(" + k + ")", () -> p.back(k), NONE);
        }
        due("before there were ROADS", p.back(3), 0);
        due("without ROADS", p.day(), NONE);
    }

    @Sentence(of = "Promise 33", says = "All is as in an IMAGE: the DAY;")
    static void backAnswers() {
        ProxyWalk p = on(PAIR, "go 1");
        p.take(0, 0);
        days(p, 3);
        due("image", p.image(2), 3);
        String before = state(p);
        for (int again = 0; again < 3; again++) {
            p.undo();
            p.undo();
            p.check(0);
            p.force(NONE);
            p.seed(again + 5);
            p.log(0, 0, 0);
            roads(p, RING);
            due("the DAY", p.back(2), 3);
            due("all is as it was", state(p).equals(before), true);
        }
        due("undone from there", p.undo(), 3);
        due("DAY", p.count(7), 2);
    }

    @Sentence(of = "Promise 33", says = "NONE, and nothing happens, if it was never made, or without it.")
    static void backRefused() {
        ProxyWalk p = on(PAIR, "go 1");
        p.day();
        p.image(1);
        p.day();
        for (int k : new int[] {0, 2, 3, 4, -1, -2, Integer.MAX_VALUE, Integer.MIN_VALUE}) refused(p, "back(" + k + ")", () -> p.back(k), NONE);
        due("made", p.back(1), 1);
        ProxyWalk q = new ProxyWalk();
        for (int k = 0; k < 4; k++) {
            int never = k;
            refused(q, "never made", () -> q.back(never), NONE);
        }
    }
}
