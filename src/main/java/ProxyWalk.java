import java.util.Arrays;

/**
 * Walks for another's sins: ROADS and RULES told in a language, DAYS by hand, and what is asked of how it goes on.
 *
 * <p>Every row is made in a constructor and used again, so that no call makes an object.
 */
public final class ProxyWalk {
    /** None. */
    public static final int NONE = -1;

    private static final int TOWNS = 8;
    private static final int SENTENCES = 6;
    private static final int WALKERS = 3;
    private static final int RULES = 6;
    private static final int IMAGES = 4;
    private static final int LOGS = 10;
    private static final int BYTES = 400;
    private static final int LAST_DAY = 999;
    private static final int LOG_DAYS = 60;
    private static final int PLACES = TOWNS + 1;
    private static final int AHEAD_DAYS = 100;
    /** More DAYS than any way has: there is none. */
    private static final int FAR = 1000000;

    private final Text tape = new Text();
    private final Rule[] rules = new Rule[RULES];
    private int ruleCount = 0;
    private final Scene now = new Scene();
    private final Scene[] images = new Scene[IMAGES];
    /** ROADS while they are read, so that those in use stay if there is a FAULT. */
    private final Roads draft = new Roads();
    /** What is asked goes on here, so that nothing changes. */
    private final Walk trial = new Walk();
    private final Rounds rounds = new Rounds();
    /** By WALKER, how many RULES have them at each place: on a WAY, then in each TOWN. */
    private final int[] alike = new int[WALKERS * PLACES];

    public ProxyWalk() {
        for (int i = 0; i < RULES; i++) {
            rules[i] = new Rule();
        }
        for (int i = 0; i < IMAGES; i++) {
            images[i] = new Scene();
        }
    }

    // ---- the TAPE, ROADS and RULES

    public int feed(int a, int b, int c, int d, int e) {
        if (tape.length + 20 > BYTES) {
            return NONE;
        }
        tape.add(a);
        tape.add(b);
        tape.add(c);
        tape.add(d);
        tape.add(e);
        return tape.length;
    }

    public int end(int n) {
        if (n < 0 || n > tape.length) {
            return NONE;
        }
        tape.length = n;
        return n;
    }

    public int roads() {
        boolean good = draft.read(tape);
        tape.length = 0;
        if (!good) {
            return -2 - tape.fault;
        }
        now.roads.copyFrom(draft);
        now.walk.begin(draft);
        now.acts = 0;
        now.logCount = 0;
        return draft.towns;
    }

    public int rule() {
        if (ruleCount >= RULES) {
            return NONE;
        }
        boolean good = rules[ruleCount].read(tape);
        tape.length = 0;
        if (!good) {
            return -2 - tape.fault;
        }
        ruleCount++;
        return ruleCount - 1;
    }

    public int force(int rule) {
        if (rule < NONE || rule >= ruleCount) {
            return -2;
        }
        int before = now.force;
        now.force = rule;
        return before;
    }

    // ---- what there is

    public int sentence(int sentence, int what) {
        if (!isSentence(sentence)) {
            return -2;
        }
        switch (what) {
            case 0:
                return now.roads.place[sentence];
            case 1:
                return now.roads.due[sentence];
            case 2:
                return now.roads.fee[sentence];
            case 3:
                return now.walk.owner[sentence];
            case 4:
                return now.walk.sealed >> sentence & 1;
            case 5:
                return now.walk.paid >> sentence & 1;
            case 6:
                return now.walk.checked >> sentence & 1;
            default:
                return -2;
        }
    }

    public int walker(int walker, int what) {
        if (!isWalker(walker)) {
            return NONE;
        }
        switch (what) {
            case 0:
                return now.walk.town[walker];
            case 1:
                return now.walk.toGo[walker];
            case 2:
                return now.walk.purse[walker];
            case 3:
                return now.walk.free[walker];
            case 4:
                return now.walk.held(walker);
            default:
                return NONE;
        }
    }

    public int shop(int town) {
        return isTown(town) ? now.roads.price[town] : NONE;
    }

    public int count(int what) {
        switch (what) {
            case 0:
                return now.roads.banned;
            case 1:
                return now.roads.towns;
            case 2:
                return now.roads.wayCount();
            case 3:
                return now.roads.sentences;
            case 4:
                return now.roads.walkers;
            case 5:
                return ruleCount;
            case 6:
                return now.force;
            case 7:
                return now.walk.day;
            case 8:
                return now.walk.sealed;
            case 9:
                return now.walk.paid;
            case 10:
                return now.walk.inTowns(now.roads.walkers);
            case 11:
                return now.logCount;
            case 12:
                return now.acts;
            case 13:
                return now.x;
            case 14:
                return tape.length;
            default:
                return NONE;
        }
    }

    // ---- ACTS

    public int day() {
        if (!now.roads.told || now.walk.day >= LAST_DAY) {
            return NONE;
        }
        now.keep();
        return now.walk.pass(now.roads, ruleInForce());
    }

    public int take(int walker, int sentence) {
        if (!canTake(walker) || !isOpen(sentence)) {
            return NONE;
        }
        now.keep();
        now.walk.owner[sentence] = walker;
        return Integer.bitCount(now.walk.held(walker));
    }

    public int giveBack(int walker, int sentence) {
        if (!hasUnsealed(walker, sentence) || now.walk.place(walker) != 0) {
            return NONE;
        }
        now.keep();
        now.walk.owner[sentence] = NONE;
        return Integer.bitCount(now.walk.held(walker));
    }

    public boolean swap(int one, int other) {
        if (!areTwo(one, other) || !now.walk.together(one, other)) {
            return false;
        }
        now.keep();
        int[] owner = now.walk.owner;
        for (int s = 0; s < SENTENCES; s++) {
            if (owner[s] == one) {
                owner[s] = other;
            } else if (owner[s] == other) {
                owner[s] = one;
            }
        }
        return true;
    }

    public int shell(int walker, int sentence) {
        if (!hasUnsealed(walker, sentence) || now.walk.toGo[walker] != 0) {
            return NONE;
        }
        int price = now.roads.price[now.walk.town[walker]];
        if (price == 0 || now.walk.purse[walker] < price) {
            return NONE;
        }
        now.keep();
        now.walk.purse[walker] -= price;
        now.walk.sealed |= 1 << sentence;
        now.walk.buyer[sentence] = walker;
        return now.walk.purse[walker];
    }

    public int check(int sentence) {
        if (!isSentence(sentence)) {
            return NONE;
        }
        int bit = 1 << sentence;
        if ((now.walk.sealed & bit) == 0 || (now.walk.checked & bit) != 0) {
            return NONE;
        }
        now.keep();
        if (now.walk.buyer[sentence] == NONE) {
            now.walk.checked |= bit;
            return 0;
        }
        now.walk.findOut(now.roads, sentence);
        return 1;
    }

    public int undo() {
        if (now.acts == 0) {
            return -2;
        }
        now.unmake();
        return now.acts;
    }

    // ---- how it goes on, ways

    public int ahead(int walker, int n, int what) {
        if (!now.roads.told || n < 0 || n > AHEAD_DAYS || what < 0 || what > 2) {
            return -2;
        }
        if (what != 2 && !isWalker(walker)) {
            return -2;
        }
        trial.copyFrom(now.walk);
        goOn(n);
        if (what == 2) {
            return Integer.bitCount(trial.paid);
        }
        return what == 0 ? trial.place(walker) : trial.purse[walker];
    }

    public int way(int from, int to, int what) {
        if (!isTown(from) || !isTown(to) || what < 0 || what > 1) {
            return -3;
        }
        int days = now.roads.between(from, to);
        if (days >= FAR) {
            return -2;
        }
        return what == 0 ? days : now.roads.nextTown(from, to);
    }

    public int meet(int one, int other) {
        if (!areTwo(one, other)) {
            return NONE;
        }
        trial.copyFrom(now.walk);
        for (int i = 0; i < AHEAD_DAYS; i++) {
            if (trial.together(one, other)) {
                return trial.day;
            }
            goOn(1);
        }
        return -2;
    }

    // ---- rounds, seals, what is saved and owed

    public int round(int walker, int what) {
        if (!isWalker(walker) || now.walk.toGo[walker] != 0 || what < 0 || what > 2) {
            return -3;
        }
        rounds.plan(now.roads, now.walk, walker);
        int set = rounds.bestSet(now.roads);
        if (set == NONE) {
            return -2;
        }
        if (what == 0) {
            return now.roads.feesOf(set);
        }
        return what == 1 ? set : rounds.home[set];
    }

    public int parted(int what) {
        if (!now.roads.told || what < 0 || what > SENTENCES) {
            return -3;
        }
        if (what > now.roads.sentences) {
            return -2;
        }
        rounds.part(now.roads, now.walk);
        return what == 0 ? rounds.most : rounds.bestRow[what - 1];
    }

    public int seals(int town, int what) {
        if (!isTown(town) || town == 0 || what < 0 || what > 1) {
            return NONE;
        }
        int set = now.roads.leastCut(town);
        if (set == NONE) {
            return -2;
        }
        return what == 0 ? Integer.bitCount(set) : set;
    }

    public int saves(int sentence) {
        if (!isSentence(sentence)) {
            return -1000;
        }
        int there = now.roads.between(0, now.roads.place[sentence]);
        int shop = now.roads.nearestShop();
        return there >= FAR || shop >= FAR ? -1000 : 2 * there - 2 * shop;
    }

    public int owed(int walker, int sentence) {
        if (!isWalker(walker) || !isSentence(sentence) || now.walk.owner[sentence] != walker) {
            return NONE;
        }
        int fee = now.roads.fee[sentence];
        if ((now.walk.sealed >> sentence & 1) != 0) {
            return fee;
        }
        int town = now.roads.place[sentence];
        int whole = now.roads.between(0, town);
        int rest = now.roads.between(now.walk.town[walker], town);
        if (whole == 0 || whole >= FAR || rest >= whole) {
            return 0;
        }
        return fee * (whole - rest) / whole;
    }

    public int choose(int walker, int n, int what) {
        if (!canTake(walker) || n < 1 || n > AHEAD_DAYS || what < 0 || what > 1) {
            return -2;
        }
        int best = NONE;
        int most = NONE;
        for (int s = NONE; s < now.roads.sentences; s++) {
            if (s != NONE && !isOpen(s)) {
                continue;
            }
            trial.copyFrom(now.walk);
            if (s != NONE) {
                trial.owner[s] = walker;
            }
            goOn(n);
            if (trial.purse[walker] > most) {
                most = trial.purse[walker];
                best = s;
            }
        }
        return what == 0 ? best : most;
    }

    // ---- LOGS

    public int log(int n, int walker, int town) {
        if (n == NONE) {
            now.logCount = 0;
            return 0;
        }
        if (n < 0 || n > LOG_DAYS || !isWalker(walker) || now.logCount >= LOGS) {
            return -2;
        }
        if (town != NONE && !isTown(town)) {
            return -2;
        }
        int at = now.logCount;
        now.logDay[at] = n;
        now.logWalker[at] = walker;
        now.logTown[at] = town;
        now.logCount++;
        return now.logCount;
    }

    public int ruled(int what) {
        if (!now.roads.told || what < 0 || what > 1) {
            return -3;
        }
        int first = -2;
        int many = 0;
        for (int r = NONE; r < ruleCount; r++) {
            if (isSo(r)) {
                many++;
                first = first == -2 ? r : first;
            }
        }
        return what == 0 ? many : first;
    }

    public int look(int n, int what) {
        if (!now.roads.told || n < 0 || n > LOG_DAYS || what < 0 || what > 1) {
            return NONE;
        }
        boolean any = false;
        Arrays.fill(alike, 0);
        for (int r = NONE; r < ruleCount; r++) {
            if (isSo(r)) {
                any = true;
                countPlaces(r, n);
            }
        }
        int best = -2;
        int fewest = -2;
        for (int w = 0; w < now.roads.walkers && any; w++) {
            int most = mostAlike(w);
            if (best == -2 || most < fewest) {
                best = w;
                fewest = most;
            }
        }
        return what == 0 ? best : fewest;
    }

    // ---- DRAWS

    public int seed(int x) {
        if (x < 0) {
            return NONE;
        }
        int before = now.x;
        now.x = x;
        return before;
    }

    public int years(int m, int n, int p, int what) {
        if (!now.roads.told || m < 1 || m > 10 || n < 1 || n > 60) {
            return NONE;
        }
        if (p < 0 || p > 100 || what < 0 || what > 1) {
            return NONE;
        }
        int robbed = 0;
        int purses = 0;
        int x = now.x;
        for (int time = 0; time < m; time++) {
            trial.copyFrom(now.walk);
            for (int i = 0; i < n; i++) {
                for (int w = 0; w < now.roads.walkers; w++) {
                    if (trial.toGo[w] == 0) {
                        continue;
                    }
                    x = drawn(x);
                    if (x / 65536 % 100 < p) {
                        trial.purse[w] = 0;
                        trial.toGo[w]++;
                        robbed++;
                    }
                }
                goOn(1);
            }
            purses += trial.allPurses(now.roads.walkers);
        }
        return what == 0 ? robbed : purses;
    }

    // ---- IMAGES

    public int image(int k) {
        if (k < 0 || k >= IMAGES) {
            return NONE;
        }
        images[k].copyFrom(now);
        images[k].made = true;
        return now.walk.day;
    }

    public int back(int k) {
        if (k < 0 || k >= IMAGES || !images[k].made) {
            return NONE;
        }
        now.copyFrom(images[k]);
        return now.walk.day;
    }

    // ---- what the calls above share

    private boolean isTown(int town) {
        return town >= 0 && town < now.roads.towns;
    }

    private boolean isSentence(int sentence) {
        return sentence >= 0 && sentence < now.roads.sentences;
    }

    private boolean isWalker(int walker) {
        return walker >= 0 && walker < now.roads.walkers;
    }

    private boolean areTwo(int one, int other) {
        return isWalker(one) && isWalker(other) && one != other;
    }

    /** A SENTENCE that can be TAKEN. */
    private boolean isOpen(int sentence) {
        return isSentence(sentence) && now.walk.owner[sentence] == NONE && (now.walk.paid >> sentence & 1) == 0;
    }

    private boolean canTake(int walker) {
        return isWalker(walker) && now.walk.place(walker) == 0 && now.walk.day >= now.walk.free[walker];
    }

    private boolean hasUnsealed(int walker, int sentence) {
        return isWalker(walker) && isSentence(sentence) && now.walk.owner[sentence] == walker
            && (now.walk.sealed >> sentence & 1) == 0;
    }

    private Rule ruleInForce() {
        return ruleAt(now.force);
    }

    /** A RULE; null for NONE. */
    private Rule ruleAt(int number) {
        return number >= 0 && number < ruleCount ? rules[number] : null;
    }

    private void goOn(int days) {
        Rule rule = ruleInForce();
        for (int i = 0; i < days; i++) {
            trial.pass(now.roads, rule);
        }
    }

    /** Begins on trial as the LOGS do. */
    private void beginLogged() {
        trial.begin(now.roads);
        int both = Math.min(now.roads.walkers, now.roads.sentences);
        for (int i = 0; i < both; i++) {
            trial.owner[i] = i;
        }
    }

    /** By this RULE (NONE: by none) all LOGS are so. */
    private boolean isSo(int number) {
        Rule rule = ruleAt(number);
        int left = now.logCount;
        beginLogged();
        for (int d = 0; d <= LOG_DAYS && left > 0; d++) {
            trial.pass(now.roads, rule);
            for (int i = 0; i < now.logCount; i++) {
                if (now.logDay[i] == d) {
                    if (trial.place(now.logWalker[i]) != now.logTown[i]) {
                        return false;
                    }
                    left--;
                }
            }
        }
        return true;
    }

    private void countPlaces(int number, int lastDay) {
        Rule rule = ruleAt(number);
        beginLogged();
        for (int d = 0; d <= lastDay; d++) {
            trial.pass(now.roads, rule);
        }
        for (int w = 0; w < now.roads.walkers; w++) {
            alike[w * PLACES + trial.place(w) + 1]++;
        }
    }

    private int mostAlike(int walker) {
        int most = 0;
        for (int i = 0; i < PLACES; i++) {
            most = Math.max(most, alike[walker * PLACES + i]);
        }
        return most;
    }

    private static int drawn(int x) {
        return (int) ((x * 1103515245L + 12345L) & 2147483647L);
    }

    /** The TAPE, and the words, NUMBERS and signs it is cut into ahead of being read. */
    private static final class Text {
        static final int END = 0;
        static final int WORD = 1;
        static final int NUMBER = 2;
        static final int SIGN = 3;
        static final int BLANK = 4;
        /** Comes to a < or > behind which = stands. */
        static final int WIDE = 256;
        static final int DIGITS = 5;

        /** Kinds of FAULT. */
        static final int NOT_HERE = 0;
        static final int NOT_AS_TOLD = 1;
        static final int TOO_DEEP = 2;
        static final int PART_TOO_MANY = 3;
        static final int CLAUSE_WRONG = 4;

        final int[] bytes = new int[BYTES];
        int length = 0;
        private final int[] sort = new int[BYTES + 1];
        private final int[] value = new int[BYTES + 1];
        private final int[] place = new int[BYTES + 1];
        private int tokens = 0;
        private int next = 0;
        /** The first FAULT; 0: none yet. */
        int fault = 0;

        void add(int number) {
            for (int shift = 24; shift >= 0; shift -= 8) {
                if (length < BYTES) {
                    bytes[length] = number >>> shift & 255;
                    length++;
                }
            }
        }

        void cut(String words) {
            tokens = 0;
            next = 0;
            fault = 0;
            int from = 0;
            for (int i = 0; i < BYTES && from < length; i++) {
                int to = stopOf(from);
                cutOne(from, to, words);
                from = to;
            }
            sort[tokens] = END;
            value[tokens] = NONE;
            place[tokens] = length;
        }

        private void cutOne(int from, int to, String words) {
            int kind = sortOf(bytes[from]);
            if (kind == BLANK || tokens >= BYTES) {
                return;
            }
            sort[tokens] = kind;
            place[tokens] = from;
            if (kind == WORD) {
                value[tokens] = wordOf(words, from, to);
            } else if (kind == NUMBER) {
                value[tokens] = numberOf(from, to);
            } else {
                value[tokens] = bytes[from] + (to - from > 1 ? WIDE : 0);
            }
            tokens++;
        }

        private static int sortOf(int sign) {
            if (sign >= 'a' && sign <= 'z') {
                return WORD;
            }
            if (sign >= '0' && sign <= '9') {
                return NUMBER;
            }
            return sign == ' ' ? BLANK : SIGN;
        }

        private int stopOf(int from) {
            int kind = sortOf(bytes[from]);
            int to = from + 1;
            if (kind == SIGN) {
                boolean open = bytes[from] == '<' || bytes[from] == '>';
                return open && to < length && bytes[to] == '=' ? to + 1 : to;
            }
            while (to < length && sortOf(bytes[to]) == kind) {
                to++;
            }
            return to;
        }

        /** Which of the words, between which one blank stands, this one is; NONE: none of them. */
        private int wordOf(String words, int from, int to) {
            int which = 0;
            int same = 0;
            for (int i = 0; i <= words.length(); i++) {
                if (i == words.length() || words.charAt(i) == ' ') {
                    if (same == to - from) {
                        return which;
                    }
                    which++;
                    same = 0;
                } else if (same != NONE) {
                    boolean alike = same < to - from && bytes[from + same] == words.charAt(i);
                    same = alike ? same + 1 : NONE;
                }
            }
            return NONE;
        }

        /** NONE if it has too many digits, so that no range it is told with holds it. */
        private int numberOf(int from, int to) {
            if (to - from > DIGITS) {
                return NONE;
            }
            int number = 0;
            for (int i = from; i < to; i++) {
                number = number * 10 + bytes[i] - '0';
            }
            return number;
        }

        boolean isEnd() {
            return sort[next] == END;
        }

        boolean isNumber() {
            return sort[next] == NUMBER;
        }

        boolean isWord(int word) {
            return sort[next] == WORD && value[next] == word;
        }

        boolean isSign(int sign) {
            return sort[next] == SIGN && value[next] == sign;
        }

        /** The word that stands next; NONE if none does that was asked for. */
        int wordHere() {
            return sort[next] == WORD ? value[next] : NONE;
        }

        /** The sign that stands next; NONE if none does. */
        int signHere() {
            return sort[next] == SIGN ? value[next] : NONE;
        }

        int numberHere() {
            return sort[next] == NUMBER ? value[next] : NONE;
        }

        /** Behind a FAULT nothing is gone past, so that it stays the first. */
        void skip() {
            if (fault == 0 && next < tokens) {
                next++;
            }
        }

        /** A FAULT at what stands next, if it is the first one. */
        void fail(int kind) {
            if (fault == 0) {
                fault = 1 + 8 * place[next] + kind;
            }
        }

        /** The NUMBER that stands next, which must lie within these. */
        int takeNumber(int least, int most) {
            int number = numberHere();
            if (!isNumber()) {
                fail(NOT_HERE);
            } else if (number < least || number > most) {
                fail(NOT_AS_TOLD);
            }
            skip();
            return number;
        }

        /** Goes on to another CLAUSE; false: the text ends here, or there is a FAULT. */
        boolean hasMore() {
            if (isEnd()) {
                return false;
            }
            takeSign(';');
            return fault == 0;
        }

        void takeSign(int sign) {
            if (!isSign(sign)) {
                fail(NOT_HERE);
            }
            skip();
        }
    }

    /** ROADS as they were told, and how far the TOWNS are apart. */
    private static final class Roads {
        static final String WORDS = "roads town shop way sentence walker";
        static final int ROADS_WORD = 0;
        static final int TOWN_WORD = 1;
        static final int SHOP_WORD = 2;
        static final int WAY_WORD = 3;
        static final int SENTENCE_WORD = 4;
        static final int WALKER_WORD = 5;
        static final int CLAUSES = 40;

        boolean told = false;
        int banned = 0;
        int towns = 0;
        int sentences = 0;
        int walkers = 0;
        final int[] price = new int[TOWNS];
        /** DAYS of the WAY between two TOWNS; 0: there is none. */
        private final int[] days = new int[TOWNS * TOWNS];
        /** Fewest DAYS between two TOWNS; FAR: there is no way. */
        private final int[] apart = new int[TOWNS * TOWNS];
        /** TOWNS there is a WAY to, as bits. */
        private final int[] near = new int[TOWNS];
        final int[] place = new int[SENTENCES];
        final int[] due = new int[SENTENCES];
        final int[] fee = new int[SENTENCES];
        final int[] purse = new int[WALKERS];

        void copyFrom(Roads other) {
            told = other.told;
            banned = other.banned;
            towns = other.towns;
            sentences = other.sentences;
            walkers = other.walkers;
            System.arraycopy(other.price, 0, price, 0, TOWNS);
            System.arraycopy(other.days, 0, days, 0, TOWNS * TOWNS);
            System.arraycopy(other.apart, 0, apart, 0, TOWNS * TOWNS);
            System.arraycopy(other.near, 0, near, 0, TOWNS);
            System.arraycopy(other.place, 0, place, 0, SENTENCES);
            System.arraycopy(other.due, 0, due, 0, SENTENCES);
            System.arraycopy(other.fee, 0, fee, 0, SENTENCES);
            System.arraycopy(other.purse, 0, purse, 0, WALKERS);
        }

        private void clear() {
            banned = 0;
            towns = 0;
            sentences = 0;
            walkers = 0;
            Arrays.fill(price, 0);
            Arrays.fill(days, 0);
            Arrays.fill(near, 0);
        }

        /** False: there is a FAULT in the text. */
        boolean read(Text text) {
            clear();
            text.cut(WORDS);
            boolean more = true;
            for (int clause = 0; clause <= CLAUSES && more; clause++) {
                readClause(text, clause);
                more = text.hasMore();
            }
            told = text.fault == 0;
            measure();
            return told;
        }

        private void readClause(Text text, int number) {
            int word = text.wordHere();
            if (word == NONE) {
                text.fail(Text.NOT_HERE);
            } else if (number >= CLAUSES || (word == ROADS_WORD) != (number == 0) || hasNoRoom(word)) {
                text.fail(Text.CLAUSE_WRONG);
            } else {
                text.skip();
                readNumbers(text, word);
            }
        }

        private boolean hasNoRoom(int word) {
            switch (word) {
                case TOWN_WORD:
                    return towns >= TOWNS;
                case SENTENCE_WORD:
                    return sentences >= SENTENCES;
                case WALKER_WORD:
                    return walkers >= WALKERS || towns == 0;
                default:
                    return false;
            }
        }

        private void readNumbers(Text text, int word) {
            switch (word) {
                case ROADS_WORD:
                    banned = text.takeNumber(0, 99);
                    break;
                case TOWN_WORD:
                    towns++;
                    break;
                case SHOP_WORD:
                    readShop(text);
                    break;
                case WAY_WORD:
                    readWay(text);
                    break;
                case SENTENCE_WORD:
                    readSentence(text);
                    break;
                default:
                    readWalker(text);
                    break;
            }
        }

        private void readShop(Text text) {
            int town = text.takeNumber(0, towns - 1);
            int cost = text.takeNumber(1, 99);
            if (text.fault == 0) {
                price[town] = cost;
            }
        }

        private void readWay(Text text) {
            int one = text.takeNumber(0, towns - 1);
            if (text.isNumber() && text.numberHere() == one) {
                text.fail(Text.NOT_AS_TOLD);
            }
            int other = text.takeNumber(0, towns - 1);
            int length = text.takeNumber(1, 9);
            if (text.fault == 0) {
                days[one * TOWNS + other] = length;
                days[other * TOWNS + one] = length;
                near[one] |= 1 << other;
                near[other] |= 1 << one;
            }
        }

        private void readSentence(Text text) {
            int town = text.takeNumber(0, towns - 1);
            int by = text.takeNumber(0, 299);
            int pay = text.takeNumber(0, 99);
            if (text.fault == 0) {
                place[sentences] = town;
                due[sentences] = by;
                fee[sentences] = pay;
                sentences++;
            }
        }

        private void readWalker(Text text) {
            int money = text.takeNumber(0, 99);
            if (text.fault == 0) {
                purse[walkers] = money;
                walkers++;
            }
        }

        private void measure() {
            for (int i = 0; i < TOWNS * TOWNS; i++) {
                apart[i] = days[i] == 0 ? FAR : days[i];
            }
            for (int t = 0; t < TOWNS; t++) {
                apart[t * TOWNS + t] = 0;
            }
            for (int by = 0; by < towns; by++) {
                for (int from = 0; from < towns; from++) {
                    for (int to = 0; to < towns; to++) {
                        int sum = apart[from * TOWNS + by] + apart[by * TOWNS + to];
                        if (sum < apart[from * TOWNS + to]) {
                            apart[from * TOWNS + to] = sum;
                        }
                    }
                }
            }
        }

        int between(int from, int to) {
            return apart[from * TOWNS + to];
        }

        /** DAYS of the WAY; 0: there is none. */
        int wayDays(int from, int to) {
            return days[from * TOWNS + to];
        }

        int wayCount() {
            int ends = 0;
            for (int t = 0; t < towns; t++) {
                ends += Integer.bitCount(near[t]);
            }
            return ends / 2;
        }

        /** The least TOWN next on a shortest way; NONE: it is there. */
        int nextTown(int from, int to) {
            for (int t = 0; t < towns && from != to; t++) {
                int first = wayDays(from, t);
                if (first != 0 && first + between(t, to) == between(from, to)) {
                    return t;
                }
            }
            return NONE;
        }

        int nearestShop() {
            int nearest = FAR;
            for (int t = 0; t < towns; t++) {
                if (price[t] != 0) {
                    nearest = Math.min(nearest, between(0, t));
                }
            }
            return nearest;
        }

        int feesOf(int set) {
            int fees = 0;
            for (int s = 0; s < sentences; s++) {
                fees += (set >> s & 1) == 0 ? 0 : fee[s];
            }
            return fees;
        }

        /** The fewest TOWNS without a shop that lie on all ways from home to that one, as bits; NONE: none do. */
        int leastCut(int town) {
            int barred = 1;
            for (int t = 1; t < towns; t++) {
                barred |= price[t] != 0 ? 1 << t : 0;
            }
            int best = NONE;
            int fewest = TOWNS + 1;
            for (int set = 0; set < 1 << towns; set++) {
                int many = Integer.bitCount(set);
                if ((set & barred) == 0 && many < fewest && !isReached(town, set)) {
                    best = set;
                    fewest = many;
                }
            }
            return best;
        }

        /** There is a way from home to the TOWN on which none of the shut ones lies. */
        private boolean isReached(int town, int shut) {
            int reached = 1;
            int before = 0;
            for (int i = 0; i < TOWNS && reached != before; i++) {
                before = reached;
                for (int t = 0; t < towns; t++) {
                    if ((reached >> t & 1) != 0) {
                        reached |= near[t] & ~shut;
                    }
                }
            }
            return (reached >> town & 1) != 0;
        }
    }

    /** A RULE as a row of codes, each behind what it joins, and the place where that row is gone through. */
    private static final class Rule {
        static final String WORDS =
            "walker town days asked due home purse has sealed day shop go if not and or";
        static final int WALKER = 0;
        static final int TOWN = 1;
        static final int DAYS = 2;
        static final int ASKED = 3;
        static final int DUE = 4;
        static final int HOME = 5;
        static final int PURSE = 6;
        static final int HAS = 7;
        static final int SEALED = 8;
        static final int DAY = 9;
        static final int SHOP = 10;
        static final int VALUES = 11;
        static final int GO = 11;
        static final int IF = 12;
        static final int NOT = 13;
        static final int AND = 14;
        static final int OR = 15;
        static final int LESS_OR_ALIKE = Text.WIDE + '<';
        static final int MORE_OR_ALIKE = Text.WIDE + '>';
        /** The code of NUMBER 0. */
        static final int NUMBERS = 1000;
        static final int WITHOUT = 999;
        static final int CLAUSES = 12;
        static final int DEPTH = 10;
        static final int PARTS = 60;
        /** Two a level of brackets and four within a FACT are the most that wait. */
        static final int STACK = 40;

        private final int[] code = new int[BYTES];
        private int size = 0;
        /** Where each CLAUSE's SUM begins, and behind the last one the end. */
        private final int[] sumAt = new int[CLAUSES + 1];
        /** Where each CLAUSE's TEST begins: the next one's SUM does there, if it has none. */
        private final int[] testAt = new int[CLAUSES];
        private int clauses = 0;
        /** VALUES, and FACTS made of a SIGN. */
        private int parts = 0;
        private final long[] seen = new long[VALUES];
        private final long[] stack = new long[STACK];

        /** False: there is a FAULT in the text. */
        boolean read(Text text) {
            size = 0;
            clauses = 0;
            parts = 0;
            text.cut(WORDS);
            boolean more = true;
            for (int i = 0; i <= CLAUSES && more; i++) {
                readClause(text);
                more = text.hasMore();
            }
            return text.fault == 0;
        }

        private void readClause(Text text) {
            if (!text.isWord(GO)) {
                text.fail(Text.NOT_HERE);
                return;
            }
            if (clauses >= CLAUSES) {
                text.fail(Text.CLAUSE_WRONG);
                return;
            }
            text.skip();
            sumAt[clauses] = size;
            readSum(text);
            testAt[clauses] = size;
            if (text.fault == 0 && text.isWord(IF)) {
                text.skip();
                readTest(text, 0);
            }
            clauses++;
            sumAt[clauses] = size;
        }

        private void readTest(Text text, int depth) {
            boolean orWaits = false;
            readFact(text, depth);
            for (int i = 0; i < BYTES && text.fault == 0; i++) {
                boolean or = text.isWord(OR);
                if (!or && !text.isWord(AND)) {
                    break;
                }
                if (or && orWaits) {
                    put(OR);
                }
                orWaits |= or;
                text.skip();
                readFact(text, depth);
                if (!or) {
                    put(AND);
                }
            }
            if (orWaits) {
                put(OR);
            }
        }

        private void readFact(Text text, int depth) {
            boolean not = text.isWord(NOT);
            boolean opens = not || text.isSign('[');
            if (opens && depth >= DEPTH) {
                text.fail(Text.TOO_DEEP);
            } else if (not) {
                text.skip();
                readFact(text, depth + 1);
                put(NOT);
            } else if (opens) {
                text.skip();
                readTest(text, depth + 1);
                text.takeSign(']');
            } else {
                readSum(text);
                int sign = text.signHere();
                countSign(text, sign);
                readSum(text);
                put(sign);
            }
        }

        private void countSign(Text text, int sign) {
            if (!compares(sign)) {
                text.fail(Text.NOT_HERE);
            } else if (parts >= PARTS) {
                text.fail(Text.PART_TOO_MANY);
            }
            parts++;
            text.skip();
        }

        private static boolean compares(int sign) {
            return sign == '<' || sign == '=' || sign == '>' || sign == LESS_OR_ALIKE || sign == MORE_OR_ALIKE;
        }

        private void readSum(Text text) {
            int waiting = NONE;
            readValue(text);
            for (int i = 0; i < BYTES && text.fault == 0; i++) {
                int sign = text.signHere();
                boolean adds = sign == '+' || sign == '-';
                if (!adds && sign != '*' && sign != '/' && sign != '%') {
                    break;
                }
                if (adds && waiting != NONE) {
                    put(waiting);
                }
                waiting = adds ? sign : waiting;
                text.skip();
                readValue(text);
                if (!adds) {
                    put(sign);
                }
            }
            if (waiting != NONE) {
                put(waiting);
            }
        }

        private void readValue(Text text) {
            int word = text.wordHere();
            int number = text.numberHere();
            if (!text.isNumber() && (word == NONE || word >= VALUES)) {
                text.fail(Text.NOT_HERE);
            } else if (text.isNumber() && number == NONE) {
                text.fail(Text.NOT_AS_TOLD);
            } else if (parts >= PARTS) {
                text.fail(Text.PART_TOO_MANY);
            } else {
                parts++;
                put(text.isNumber() ? NUMBERS + number : word);
                text.skip();
            }
        }

        private void put(int what) {
            if (size < BYTES) {
                code[size] = what;
                size++;
            }
        }

        /** What going to that TOWN is worth to a WALKER in one. */
        long worth(Roads roads, Walk walk, int who, int town) {
            see(roads, walk, who, town);
            for (int c = 0; c < clauses; c++) {
                boolean always = testAt[c] == sumAt[c + 1];
                if (always || run(testAt[c], sumAt[c + 1]) != 0) {
                    return run(sumAt[c], testAt[c]);
                }
            }
            return 0;
        }

        private void see(Roads roads, Walk walk, int who, int town) {
            int asked = 0;
            int least = FAR;
            int has = 0;
            int sealed = 0;
            for (int s = 0; s < roads.sentences; s++) {
                if (walk.owner[s] != who) {
                    continue;
                }
                has++;
                if ((walk.sealed >> s & 1) != 0) {
                    sealed++;
                } else if (roads.place[s] == town) {
                    asked++;
                    least = Math.min(least, roads.due[s]);
                }
            }
            int home = roads.between(town, 0);
            seen[WALKER] = who;
            seen[TOWN] = town;
            seen[DAYS] = roads.wayDays(walk.town[who], town);
            seen[ASKED] = asked;
            seen[DUE] = asked == 0 ? WITHOUT : least - walk.day;
            seen[HOME] = home >= FAR ? WITHOUT : home;
            seen[PURSE] = walk.purse[who];
            seen[HAS] = has;
            seen[SEALED] = sealed;
            seen[DAY] = walk.day;
            seen[SHOP] = roads.price[town];
        }

        private long run(int from, int to) {
            int top = 0;
            for (int i = from; i < to; i++) {
                int what = code[i];
                if (what < VALUES || what >= NUMBERS) {
                    if (top >= STACK) {
                        return 0;
                    }
                    stack[top] = what < VALUES ? seen[what] : what - NUMBERS;
                    top++;
                } else if (what == NOT) {
                    if (top < 1) {
                        return 0;
                    }
                    stack[top - 1] = 1 - stack[top - 1];
                } else {
                    if (top < 2) {
                        return 0;
                    }
                    top--;
                    stack[top - 1] = join(what, stack[top - 1], stack[top]);
                }
            }
            return top < 1 ? 0 : stack[0];
        }

        private static long join(int what, long left, long right) {
            switch (what) {
                case '+':
                    return left + right;
                case '-':
                    return left - right;
                case '*':
                    return left * right;
                case '/':
                    return right == 0 ? 0 : left / right;
                case '%':
                    return right == 0 ? 0 : left % right;
                case '<':
                    return left < right ? 1 : 0;
                case LESS_OR_ALIKE:
                    return left <= right ? 1 : 0;
                case '=':
                    return left == right ? 1 : 0;
                case MORE_OR_ALIKE:
                    return left >= right ? 1 : 0;
                case '>':
                    return left > right ? 1 : 0;
                case AND:
                    return left & right;
                case OR:
                    return left | right;
                default:
                    return 0;
            }
        }
    }

    /** Where WALKERS and SENTENCES are on a DAY. */
    private static final class Walk {
        static final int MOST_PURSE = 9999;
        /** Numbers that one of these is kept in. */
        static final int SIZE = 4 + 4 * WALKERS + 2 * SENTENCES;

        int day = 0;
        int sealed = 0;
        int paid = 0;
        int checked = 0;
        final int[] town = new int[WALKERS];
        final int[] toGo = new int[WALKERS];
        final int[] purse = new int[WALKERS];
        /** The first DAY on which they may TAKE. */
        final int[] free = new int[WALKERS];
        final int[] owner = new int[SENTENCES];
        /** Who bought the shell by which it is SEALED falsely; NONE: it is not. */
        final int[] buyer = new int[SENTENCES];

        Walk() {
            Arrays.fill(owner, NONE);
            Arrays.fill(buyer, NONE);
        }

        void begin(Roads roads) {
            day = 0;
            sealed = 0;
            paid = 0;
            checked = 0;
            Arrays.fill(town, 0);
            Arrays.fill(toGo, 0);
            Arrays.fill(free, 0);
            Arrays.fill(owner, NONE);
            Arrays.fill(buyer, NONE);
            System.arraycopy(roads.purse, 0, purse, 0, WALKERS);
        }

        void copyFrom(Walk other) {
            day = other.day;
            sealed = other.sealed;
            paid = other.paid;
            checked = other.checked;
            System.arraycopy(other.town, 0, town, 0, WALKERS);
            System.arraycopy(other.toGo, 0, toGo, 0, WALKERS);
            System.arraycopy(other.purse, 0, purse, 0, WALKERS);
            System.arraycopy(other.free, 0, free, 0, WALKERS);
            System.arraycopy(other.owner, 0, owner, 0, SENTENCES);
            System.arraycopy(other.buyer, 0, buyer, 0, SENTENCES);
        }

        void save(int[] row, int from) {
            row[from] = day;
            row[from + 1] = sealed;
            row[from + 2] = paid;
            row[from + 3] = checked;
            int at = from + 4;
            System.arraycopy(town, 0, row, at, WALKERS);
            System.arraycopy(toGo, 0, row, at + WALKERS, WALKERS);
            System.arraycopy(purse, 0, row, at + 2 * WALKERS, WALKERS);
            System.arraycopy(free, 0, row, at + 3 * WALKERS, WALKERS);
            at += 4 * WALKERS;
            System.arraycopy(owner, 0, row, at, SENTENCES);
            System.arraycopy(buyer, 0, row, at + SENTENCES, SENTENCES);
        }

        void load(int[] row, int from) {
            day = row[from];
            sealed = row[from + 1];
            paid = row[from + 2];
            checked = row[from + 3];
            int at = from + 4;
            System.arraycopy(row, at, town, 0, WALKERS);
            System.arraycopy(row, at + WALKERS, toGo, 0, WALKERS);
            System.arraycopy(row, at + 2 * WALKERS, purse, 0, WALKERS);
            System.arraycopy(row, at + 3 * WALKERS, free, 0, WALKERS);
            at += 4 * WALKERS;
            System.arraycopy(row, at, owner, 0, SENTENCES);
            System.arraycopy(row, at + SENTENCES, buyer, 0, SENTENCES);
        }

        /** The TOWN a WALKER is in; NONE: they are on a WAY. */
        int place(int who) {
            return toGo[who] == 0 ? town[who] : NONE;
        }

        boolean together(int one, int other) {
            return toGo[one] == 0 && toGo[other] == 0 && town[one] == town[other];
        }

        /** Their SENTENCES, as bits. */
        int held(int who) {
            int set = 0;
            for (int s = 0; s < SENTENCES; s++) {
                set |= owner[s] == who ? 1 << s : 0;
            }
            return set;
        }

        int inTowns(int walkers) {
            int set = 0;
            for (int w = 0; w < walkers; w++) {
                set |= toGo[w] == 0 ? 1 << w : 0;
            }
            return set;
        }

        int allPurses(int walkers) {
            int sum = 0;
            for (int w = 0; w < walkers; w++) {
                sum += purse[w];
            }
            return sum;
        }

        /** A DAY by a RULE (null: by none): how many SENTENCES are SEALED. */
        int pass(Roads roads, Rule rule) {
            int before = Integer.bitCount(sealed);
            for (int w = 0; w < roads.walkers; w++) {
                if (toGo[w] == 0 && rule != null) {
                    setOut(roads, rule, w);
                }
                if (toGo[w] > 0) {
                    toGo[w]--;
                }
                if (toGo[w] == 0) {
                    sealAndPay(roads, w);
                }
            }
            day++;
            return Integer.bitCount(sealed) - before;
        }

        private void setOut(Roads roads, Rule rule, int who) {
            int from = town[who];
            int best = from;
            long most = 0;
            for (int t = 0; t < roads.towns; t++) {
                if (roads.wayDays(from, t) == 0) {
                    continue;
                }
                long worth = rule.worth(roads, this, who, t);
                if (worth > most) {
                    most = worth;
                    best = t;
                }
            }
            // No WAY leads from a TOWN to itself, so this is 0 DAYS if they stay.
            toGo[who] = roads.wayDays(from, best);
            town[who] = best;
        }

        private void sealAndPay(Roads roads, int who) {
            for (int s = 0; s < roads.sentences; s++) {
                if (owner[s] != who) {
                    continue;
                }
                int bit = 1 << s;
                if (roads.place[s] == town[who] && roads.due[s] >= day) {
                    sealed |= bit;
                }
                if (town[who] == 0 && (sealed & bit) != 0) {
                    paid |= bit;
                    purse[who] = Math.min(MOST_PURSE, purse[who] + roads.fee[s]);
                    owner[s] = NONE;
                }
            }
        }

        /** A SENTENCE that is falsely SEALED is as at first, and who bought the shell is BANNED. */
        void findOut(Roads roads, int sentence) {
            int who = buyer[sentence];
            int bit = 1 << sentence;
            free[who] = day + roads.banned;
            if ((paid & bit) != 0) {
                purse[who] = Math.max(0, purse[who] - roads.fee[sentence]);
            }
            owner[sentence] = NONE;
            buyer[sentence] = NONE;
            sealed &= ~bit;
            paid &= ~bit;
        }
    }

    /** All that an IMAGE holds. */
    private static final class Scene {
        static final int ACTS = 20;

        final Roads roads = new Roads();
        final Walk walk = new Walk();
        int force = NONE;
        int x = 0;
        final int[] logDay = new int[LOGS];
        final int[] logWalker = new int[LOGS];
        final int[] logTown = new int[LOGS];
        int logCount = 0;
        /** How it was ahead of each ACT that can be UNDONE, the last one last. */
        private final int[] past = new int[ACTS * Walk.SIZE];
        int acts = 0;
        boolean made = false;

        void copyFrom(Scene other) {
            roads.copyFrom(other.roads);
            walk.copyFrom(other.walk);
            force = other.force;
            x = other.x;
            System.arraycopy(other.logDay, 0, logDay, 0, LOGS);
            System.arraycopy(other.logWalker, 0, logWalker, 0, LOGS);
            System.arraycopy(other.logTown, 0, logTown, 0, LOGS);
            logCount = other.logCount;
            System.arraycopy(other.past, 0, past, 0, ACTS * Walk.SIZE);
            acts = other.acts;
        }

        void keep() {
            if (acts >= ACTS) {
                System.arraycopy(past, Walk.SIZE, past, 0, (ACTS - 1) * Walk.SIZE);
                acts = ACTS - 1;
            }
            walk.save(past, acts * Walk.SIZE);
            acts++;
        }

        void unmake() {
            if (acts > 0) {
                acts--;
                walk.load(past, acts * Walk.SIZE);
            }
        }
    }

    /** Which sets of SENTENCES a WALKER could have SEALED, and the best of them. */
    private static final class Rounds {
        static final int SETS = 1 << SENTENCES;

        /** Fewest DAYS gone when a set is SEALED, by the one that is last; FAR: it can't be. */
        private final int[] gone = new int[SETS * SENTENCES];
        /** Fewest DAYS till they are home, by set; FAR: the set is none. */
        final int[] home = new int[SETS];
        /** By WALKER the sets that can be, as bits. */
        private final long[] fits = new long[WALKERS];
        private final int[] sets = new int[WALKERS];
        private final int[] row = new int[SENTENCES];
        final int[] bestRow = new int[SENTENCES];
        int most = 0;

        void plan(Roads roads, Walk walk, int who) {
            Arrays.fill(gone, FAR);
            Arrays.fill(home, FAR);
            int open = openTo(roads, walk, who);
            home[0] = roads.between(walk.town[who], 0);
            for (int s = 0; s < roads.sentences; s++) {
                if ((open >> s & 1) != 0) {
                    reach(roads, walk, 1 << s, s, roads.between(walk.town[who], roads.place[s]));
                }
            }
            for (int set = 1; set < 1 << roads.sentences; set++) {
                for (int last = 0; last < roads.sentences; last++) {
                    if (gone[set * SENTENCES + last] < FAR) {
                        goFurther(roads, walk, set, last, open & ~set);
                    }
                }
            }
        }

        private int openTo(Roads roads, Walk walk, int who) {
            int open = 0;
            for (int s = 0; s < roads.sentences; s++) {
                boolean may = walk.owner[s] == who || walk.owner[s] == NONE;
                boolean over = ((walk.sealed | walk.paid) >> s & 1) != 0;
                open |= may && !over ? 1 << s : 0;
            }
            return open;
        }

        private void goFurther(Roads roads, Walk walk, int set, int last, int open) {
            int days = gone[set * SENTENCES + last];
            int from = roads.place[last];
            int back = days + roads.between(from, 0);
            home[set] = Math.min(home[set], Math.min(back, FAR));
            for (int s = 0; s < roads.sentences; s++) {
                if ((open >> s & 1) != 0) {
                    reach(roads, walk, set | 1 << s, s, days + roads.between(from, roads.place[s]));
                }
            }
        }

        /** SEALED on the last DAY on which they go there, which is this one if they are there. */
        private void reach(Roads roads, Walk walk, int set, int last, int days) {
            int at = set * SENTENCES + last;
            boolean inTime = walk.day + Math.max(days - 1, 0) <= roads.due[last];
            if (inTime && days < gone[at]) {
                gone[at] = days;
            }
        }

        /** NONE if there is no way home. */
        int bestSet(Roads roads) {
            int best = NONE;
            int bestFees = NONE;
            for (int set = 0; set < 1 << roads.sentences; set++) {
                if (home[set] >= FAR) {
                    continue;
                }
                int fees = roads.feesOf(set);
                boolean sooner = best != NONE && fees == bestFees && home[set] < home[best];
                if (fees > bestFees || sooner) {
                    best = set;
                    bestFees = fees;
                }
            }
            return best;
        }

        /** Parts the SENTENCES among all WALKERS in TOWNS. */
        void part(Roads roads, Walk walk) {
            for (int w = 0; w < roads.walkers; w++) {
                sets[w] = 0;
                fits[w] = 0;
                if (walk.toGo[w] == 0) {
                    plan(roads, walk, w);
                    for (int set = 0; set < SETS; set++) {
                        fits[w] |= home[set] < FAR ? 1L << set : 0;
                    }
                }
            }
            most = NONE;
            tryRows(roads, 0, 0, roads.feesOf(SETS - 1));
        }

        /** Goes through the rows in order, so that of several best ones the first stays; left: what is not parted yet. */
        private void tryRows(Roads roads, int s, int fees, int left) {
            if (s >= roads.sentences || s >= SENTENCES) {
                if (fees > most) {
                    most = fees;
                    System.arraycopy(row, 0, bestRow, 0, SENTENCES);
                }
                return;
            }
            if (fees + left <= most) {
                return;
            }
            int fee = roads.fee[s];
            row[s] = NONE;
            tryRows(roads, s + 1, fees, left - fee);
            for (int w = 0; w < roads.walkers; w++) {
                int with = sets[w] | 1 << s;
                if ((fits[w] >> with & 1) != 0) {
                    row[s] = w;
                    sets[w] = with;
                    tryRows(roads, s + 1, fees + fee, left - fee);
                    sets[w] = with & ~(1 << s);
                }
            }
        }
    }
}
