/** Terms II: a test of its own for each sentence about a DAY and ACTS. */
public final class TermsIITest extends Bench {
    /** A shop at home, two sentences there, three walkers; they stay. */
    private static final String STALL = "roads 6;town;shop 0 4;sentence 0 0 30;sentence 0 20 8;walker 9;walker 4;walker 3";

    public static void main(String[] args) {
        runAll(TermsIITest.class, args);
    }

    @Sentence(of = "Terms II", says = "A WALKER is in a TOWN, or on a WAY to one, so many DAYS to go.")
    static void inATownOrOnAWay() {
        ProxyWalk p = on("roads 0;town;town;way 0 1 3;walker 0", "go 1");
        int[] towns = {0, 1, 1, 1, 0, 0, 0, 1};
        int[] toGo = {0, 2, 1, 0, 2, 1, 0, 2};
        for (int d = 0; d < 8; d++) {
            due("TOWN on day " + d, p.walker(0, 0), towns[d]);
            due("DAYS to go on day " + d, p.walker(0, 1), toGo[d]);
            due("in a town on day " + d, p.count(10), toGo[d] == 0 ? 1 : 0);
            p.day();
        }
    }

    @Sentence(of = "Terms II", says = "A SENTENCE is nobody's, or a WALKER's, SEALED or not, and at last PAID.")
    static void howASentenceGoes() {
        ProxyWalk p = on("roads 0;town;town;way 0 1 1;sentence 1 9 5;walker 0", "go 1");
        int[][] due = {{NONE, 0, 0}, {0, 0, 0}, {0, 1, 0}, {NONE, 1, 1}, {NONE, 1, 1}};
        for (int i = 0; i < due.length; i++) {
            for (int what = 3; what < 6; what++) due("sentence(0, " + what + ") at " + i, p.sentence(0, what), due[i][what - 3]);
            if (i == 0) p.take(0, 0);
            else p.day();
        }
    }

    // ---- A DAY

    @Sentence(of = "Terms II, A DAY", says = "A DAY, WALKERS by numbers, each wholly ahead of the next:")
    static void eachWholly() {
        ProxyWalk p = on("roads 0;town;town;way 0 1 1;sentence 1 0 5;sentence 1 0 6;sentence 0 0 7;walker 0;walker 0;walker 0", "go 1 if walker<2");
        for (int w = 0; w < 3; w++) p.take(w, w);
        due("all are sealed on one day", p.day(), 3);
        for (int w = 0; w < 3; w++) {
            due("TOWN of " + w, p.walker(w, 0), w < 2 ? 1 : 0);
            due("PURSE of " + w, p.walker(w, 2), w < 2 ? 0 : 7);
        }
        p.day();
        for (int w = 0; w < 3; w++) due("PURSE of " + w, p.walker(w, 2), 5 + w);
    }

    @Sentence(of = "Terms II, A DAY", says = "(1) one in a TOWN goes on the WAY to that TOWN for which the SUM of the RULE IN FORCE's first CLAUSE without a TEST, or whose TEST holds (0 without), is greatest")
    static void theGreatestSum() {
        String star = "roads 0;town;town;town;town;way 0 1 2;way 0 2 2;way 0 3 2;walker 0";
        String[] rules = {"go town", "go 4-town", "go 9 if town=2;go town", "go 1 if town=2;go 2", "go 1;go 9 if town=3",
            "go 0 if town=3;go town", "go 7 if 1=2", "go 7 if 1=2;go 5 if town=2", "go 1 if town=1;go 2 if town=2;go 3 if town=3",
            "go 3 if town<3;go 5 if town<9;go 9", "go 5 if town=1 or town=2;go 4"};
        int[] to = {3, 1, 2, 1, 1, 2, 0, 2, 3, 3, 1};
        for (int i = 0; i < rules.length; i++) {
            ProxyWalk p = on(star, rules[i]);
            p.day();
            due("by " + rules[i], p.walker(0, 0), to[i]);
            due("days to go by " + rules[i], p.walker(0, 1), to[i] == 0 ? 0 : 1);
        }
        ProxyWalk p = on(star + ";walker 0", "go town", "go 4-town");
        p.force(1);
        p.day();
        due("by the rule in force", p.walker(0, 0), 1);
        p.force(0);
        p.day();
        due("on a way they don't turn", p.walker(0, 0), 1);
        String eight = "roads 0" + times(";town", 8) + ";way 0 1 1;way 1 7 1;way 7 0 1;walker 0";
        due("of eight towns the last", on(eight, "go town").ahead(0, 1, 0), 7);
        due("and from there the last but it", on(eight, "go town").ahead(0, 2, 0), 1);
        due("of eight towns the first", on(eight, "go 9-town").ahead(0, 2, 0), 0);
    }

    @Sentence(of = "Terms II, A DAY", says = "if it is above 0")
    static void aboveZero() {
        ProxyWalk p = on("roads 0;town;town;town;way 0 1 1;way 0 2 1;walker 0", "go 0", "go 0-1", "go 1", "go town-2", "go town-1", "go 1 if 1=2");
        int[] to = {0, 0, 1, 0, 2, 0};
        for (int r = 0; r < 6; r++) {
            p.force(r);
            due("by rule " + r, p.ahead(0, 1, 0), to[r]);
        }
    }

    @Sentence(of = "Terms II, A DAY", says = "of several the least TOWN;")
    static void ofSeveralTheLeastTown() {
        String star = "roads 0;town;town;town;town;way 0 3 1;way 0 2 1;way 0 1 1;walker 0";
        due("of all", on(star, "go 5").ahead(0, 1, 0), 1);
        due("of two", on(star, "go 5 if town>1").ahead(0, 1, 0), 2);
        due("of two", on(star, "go 5 if town=1 or town=3;go 4").ahead(0, 1, 0), 1);
        due("of two, the greatest", on(star, "go 4 if town=1;go 5").ahead(0, 1, 0), 2);
    }

    @Sentence(of = "Terms II, A DAY", says = "without a RULE they stay.")
    static void withoutARule() {
        ProxyWalk p = on("roads 0;town;town;way 0 1 3;sentence 0 9 5;walker 0", "go 1");
        p.force(NONE);
        p.take(0, 0);
        due("sealed all the same", p.day(), 1);
        due("they stay", p.walker(0, 0), 0);
        due("they are there", p.walker(0, 1), 0);
        due("paid all the same", p.walker(0, 2), 5);
        p.force(0);
        p.day();
        p.force(NONE);
        days(p, 2);
        due("on a way they go on", p.walker(0, 0), 1);
        due("on a way they go on", p.walker(0, 1), 0);
        p.day();
        due("there they stay", p.walker(0, 0), 1);
    }

    @Sentence(of = "Terms II, A DAY", says = "(2) One on a WAY has a DAY less to go; at 0 they are in the TOWN.")
    static void aDayLessToGo() {
        for (int days = 1; days <= 9; days++) {
            ProxyWalk p = on("roads 0;town;town;way 0 1 " + days + ";sentence 1 99 5;walker 0", "go town");
            p.take(0, 0);
            for (int d = 1; d <= days; d++) {
                due("sealed on day " + d + " of " + days, p.day(), d == days ? 1 : 0);
                due("to go", p.walker(0, 1), days - d);
                due("towards", p.walker(0, 0), 1);
            }
            due("there", p.count(10), 1);
        }
    }

    @Sentence(of = "Terms II, A DAY", says = "(3) In a TOWN, each of their SENTENCES for it that is not SEALED, and whose DAY is this one or later, is SEALED.")
    static void sealedByItsDay() {
        ProxyWalk p = on("roads 0;town;town;way 0 1 3;sentence 1 1 1;sentence 1 2 1;sentence 1 3 1;sentence 0 9 1;sentence 1 9 1;sentence 1 9 1;"
            + "walker 0;walker 0", "go town if walker=0");
        for (int s = 0; s < 4; s++) p.take(0, s);
        p.take(1, 4);
        due("on the way", days(p, 2), 0);
        due("on day 2: by 2 and by 3", p.day(), 2);
        due("not by 1, not for home, not another's, not nobody's", p.count(8), 6);
        due("not on day 3 again", p.day(), 0);
        due("not on day 3 again", p.count(8), 6);
        p = on("roads 0;town;sentence 0 0 1;sentence 0 1 1;walker 0");
        p.day();
        p.take(0, 0);
        p.take(0, 1);
        due("on day 1: by 1, not by 0", p.day(), 1);
        due("on day 1: by 1, not by 0", p.count(8), 2);
        due("never", p.day(), 0);
    }

    @Sentence(of = "Terms II, A DAY", says = "(4) In TOWN 0, each of their SENTENCES that is SEALED is PAID: its FEE comes into their PURSE")
    static void paidAtHome() {
        ProxyWalk p = on("roads 0;town;town;way 0 1 1;sentence 1 0 10;sentence 1 0 20;sentence 0 1 40;sentence 0 0 80;sentence 1 0 99;walker 3;walker 5",
            "go 1 if walker=0");
        for (int s = 0; s < 4; s++) p.take(0, s);
        p.take(1, 4);
        p.day();
        due("not in town 1", p.walker(0, 2), 3);
        due("not in town 1", p.count(9), 0);
        due("one more is sealed at home", p.day(), 1);
        due("and all sealed ones are paid", p.walker(0, 2), 3 + 10 + 20 + 40);
        due("not what is not sealed", p.count(9), 7);
        due("still theirs", p.walker(0, 4), 8);
        due("another's purse stays", p.walker(1, 2), 5);
    }

    @Sentence(of = "Terms II, A DAY", says = "(9999 at most)")
    static void aFullPurse() {
        ProxyWalk p = on("roads 0;town;shop 0 1" + times(";sentence 0 0 99", 5) + ";sentence 0 0 5;walker 0;walker 99");
        p.day();
        int purse = 99;
        for (int i = 0; i < 21; i++) {
            // Walker 0 buys shells with walker 1's money, gives nothing back, and walker 1 is paid for them.
            p.take(1, 5);
            p.shell(1, 5);
            p.swap(0, 1);
            p.day();
            p.check(5);
            for (int s = 0; s < 5; s++) {
                p.take(0, s);
                p.shell(0, s);
            }
            p.swap(0, 1);
            p.day();
            purse = Math.min(9999, purse - 6 + 495);
            due("PURSE of time " + i, p.walker(1, 2), purse);
            for (int s = 0; s < 5; s++) p.check(s);
        }
        due("full", purse, 9999);
    }

    @Sentence(of = "Terms II, A DAY", says = "; it is nobody's any more.")
    static void whatIsPaidIsNobodys() {
        ProxyWalk p = on("roads 0;town;sentence 0 0 10;walker 3");
        p.take(0, 0);
        p.day();
        due("paid", p.sentence(0, 5), 1);
        due("nobody's", p.sentence(0, 3), NONE);
        due("theirs", p.walker(0, 4), 0);
        p.day();
        due("paid once", p.walker(0, 2), 13);
    }

    @Sentence(of = "Terms II, A DAY", says = "DAY is 1 more (999 at most).")
    static void dayIsOneMore() {
        // It takes more than 512 calls to come there; the class keeps to it all the same.
        ProxyWalk p = on("roads 0;town;walker 3");
        for (int d = 0; d < 999; d++) {
            if (p.count(7) != d) due("DAY", p.count(7), d);
            if (p.day() != 0) due("day()", NONE, 0);
        }
        due("DAY", p.count(7), 999);
        refused(p, "day() at 999", p::day, NONE);
        due("back to 998", p.undo(), 19);
        due("DAY", p.count(7), 998);
        due("and on", p.day(), 0);
        due("DAY", p.count(7), 999);
    }

    // ---- ACTS

    @Sentence(of = "Terms II, ACTS", says = "ACTS: a DAY;")
    static void aDayIsAnAct() {
        ProxyWalk p = on(LINE, "go town");
        p.take(0, 1);
        String before = state(p);
        due("day()", p.day(), 1);
        due("acts", p.count(12), 2);
        due("undone", p.undo(), 1);
        due("as it was", state(p).equals(before), true);
    }

    @Sentence(of = "Terms II, ACTS", says = "TAKE (a WALKER in TOWN 0")
    static void takeInTownZero() {
        ProxyWalk p = on("roads 0;town;town;way 0 1 2;sentence 0 99 5;walker 0", "go 1");
        p.day();
        refused(p, "on the way out", () -> p.take(0, 0), NONE);
        p.day();
        refused(p, "in town 1", () -> p.take(0, 0), NONE);
        p.day();
        due("they go to town 0", p.walker(0, 0), 0);
        refused(p, "on the way home", () -> p.take(0, 0), NONE);
        p.day();
        due("at home", p.take(0, 0), 1);
        due("theirs", p.sentence(0, 3), 0);
    }

    @Sentence(of = "Terms II, ACTS", says = "not BANNED now")
    static void takeWhileBanned() {
        ProxyWalk p = on(STALL);
        p.take(0, 0);
        p.shell(0, 0);
        p.check(0);
        for (int d = 0; d < 6; d++) {
            refused(p, "banned on day " + d, () -> p.take(0, 0), NONE);
            p.day();
        }
        due("another one is not", p.take(1, 1), 1);
        due("on day 6", p.take(0, 0), 1);
    }

    @Sentence(of = "Terms II, ACTS", says = "a SENTENCE that is nobody's")
    static void takeWhatIsSomebodys() {
        ProxyWalk p = on(STALL);
        p.take(1, 0);
        refused(p, "another's", () -> p.take(0, 0), NONE);
        refused(p, "their own", () -> p.take(1, 0), NONE);
        p.giveBack(1, 0);
        due("nobody's again", p.take(0, 0), 1);
    }

    @Sentence(of = "Terms II, ACTS", says = ", not PAID);")
    static void takeWhatIsPaid() {
        ProxyWalk p = on(STALL);
        p.take(0, 0);
        p.day();
        due("nobody's", p.sentence(0, 3), NONE);
        refused(p, "paid", () -> p.take(0, 0), NONE);
        refused(p, "paid, by another one", () -> p.take(1, 0), NONE);
    }

    @Sentence(of = "Terms II, ACTS", says = "GIVE BACK (a WALKER in TOWN 0 a SENTENCE of theirs that is not SEALED: it is nobody's)")
    static void giveBackAtHome() {
        ProxyWalk p = on(STALL);
        refused(p, "nobody's", () -> p.giveBack(0, 0), NONE);
        p.take(1, 0);
        refused(p, "another's", () -> p.giveBack(0, 0), NONE);
        due("theirs", p.giveBack(1, 0), 0);
        due("it is nobody's", p.sentence(0, 3), NONE);
        p.take(0, 0);
        p.shell(0, 0);
        refused(p, "sealed", () -> p.giveBack(0, 0), NONE);
        ProxyWalk q = on("roads 0;town;town;way 0 1 2;sentence 1 0 5;walker 0", "go 1");
        q.take(0, 0);
        for (String where : new String[] {"on the way out", "in town 1", "on the way home"}) {
            q.day();
            refused(q, where, () -> q.giveBack(0, 0), NONE);
        }
        q.day();
        due("at home again, not sealed in time", q.giveBack(0, 0), 0);
    }

    @Sentence(of = "Terms II, ACTS", says = "SWAP (two WALKERS in the same TOWN: each has the SENTENCES of the other one, SEALED or not)")
    static void swapInATown() {
        ProxyWalk p = on("roads 0;town;town;town;way 0 1 2;way 0 2 2;sentence 1 9 5;sentence 2 9 5;sentence 0 9 5;sentence 1 9 5;sentence 0 9 5;"
            + "walker 0;walker 0;walker 0", "go town if town=2 and walker=2;go 1 if town<2 and walker<2");
        p.take(0, 0);
        p.take(0, 1);
        p.take(1, 3);
        p.take(2, 2);
        due("at home", p.swap(0, 1), true);
        due("of the one", p.walker(0, 4), 8);
        due("of the other", p.walker(1, 4), 3);
        due("of the third", p.walker(2, 4), 4);
        due("nobody's", p.sentence(4, 3), NONE);
        p.day();
        refused(p, "on the same way", () -> p.swap(0, 1) ? 1 : 0, 0);
        p.day();
        due("0 and 3 are sealed", p.count(8), 9);
        due("in town 1", p.swap(1, 0), true);
        due("sealed or not", p.walker(0, 4), 3);
        due("sealed", p.walker(1, 4), 8);
        due("seals stay", p.count(8), 9);
        refused(p, "in two towns", () -> p.swap(0, 2) ? 1 : 0, 0);
        ProxyWalk q = on("roads 0;town;town;way 0 1 2;walker 0;walker 0;walker 0", "go 1 if walker=0;go 1 if walker=1 and day>0");
        due("without sentences", q.swap(0, 1), true);
        q.day();
        refused(q, "one is on a way", () -> q.swap(0, 1) ? 1 : 0, 0);
        refused(q, "the other is on a way", () -> q.swap(1, 0) ? 1 : 0, 0);
        q.day();
        refused(q, "one is in the town, the other goes to it", () -> q.swap(0, 1) ? 1 : 0, 0);
    }

    @Sentence(of = "Terms II, ACTS", says = "SHELL (a WALKER in a TOWN with a shop")
    static void shellWithAShop() {
        ProxyWalk p = on("roads 0;town;town;shop 1 5;way 0 1 2;sentence 0 0 1;walker 9", "go 1");
        p.take(0, 0);
        refused(p, "no shop at home", () -> p.shell(0, 0), NONE);
        p.day();
        refused(p, "on the way to it", () -> p.shell(0, 0), NONE);
        p.day();
        due("in the town", p.shell(0, 0), 4);
        p.undo();
        p.day();
        refused(p, "on the way from it", () -> p.shell(0, 0), NONE);
    }

    @Sentence(of = "Terms II, ACTS", says = "who has its PRICE")
    static void shellForItsPrice() {
        ProxyWalk p = on(STALL);
        p.take(2, 0);
        refused(p, "3 of 4", () -> p.shell(2, 0), NONE);
        p.swap(1, 2);
        due("4 of 4", p.shell(1, 0), 0);
        p.undo();
        p.swap(0, 1);
        due("9 of 4", p.shell(0, 0), 5);
    }

    @Sentence(of = "Terms II, ACTS", says = "for a SENTENCE of theirs that is not SEALED:")
    static void shellForTheirs() {
        ProxyWalk p = on(STALL);
        refused(p, "nobody's", () -> p.shell(0, 0), NONE);
        p.take(1, 0);
        refused(p, "another's", () -> p.shell(0, 0), NONE);
        p.swap(0, 1);
        due("theirs", p.shell(0, 0), 5);
        refused(p, "sealed", () -> p.shell(0, 0), NONE);
        p.day();
        refused(p, "paid", () -> p.shell(0, 0), NONE);
        ProxyWalk q = on("roads 0;town;town;shop 1 1;way 0 1 1;sentence 1 9 5;walker 9", "go 1");
        q.take(0, 0);
        q.day();
        refused(q, "sealed rightly", () -> q.shell(0, 0), NONE);
    }

    @Sentence(of = "Terms II, ACTS", says = "PRICE out of the PURSE, it is SEALED, falsely)")
    static void whatAShellDoes() {
        ProxyWalk p = on(STALL);
        p.take(0, 0);
        p.take(0, 1);
        due("the purse then", p.shell(0, 1), 5);
        due("PURSE", p.walker(0, 2), 5);
        due("SEALED", p.count(8), 2);
        due("still theirs", p.walker(0, 4), 3);
        due("the day on: only the other one is sealed", p.day(), 1);
        due("both are paid", p.walker(0, 2), 5 + 38);
        due("falsely", p.check(1), 1);
        due("rightly", p.check(0), 0);
    }

    @Sentence(of = "Terms II, ACTS", says = "CHECK (a SENTENCE that is SEALED, PAID or not")
    static void checkWhatIsSealed() {
        ProxyWalk p = on("roads 0;town;town;way 0 1 1;sentence 1 9 5;walker 9", "go 1");
        refused(p, "nobody's", () -> p.check(0), NONE);
        p.take(0, 0);
        refused(p, "not sealed", () -> p.check(0), NONE);
        p.day();
        due("sealed, not paid", p.check(0), 0);
        p.undo();
        p.day();
        due("paid", p.check(0), 0);
        due("the purse stays", p.walker(0, 2), 14);
        due("not banned", p.walker(0, 3), 0);
    }

    @Sentence(of = "Terms II, ACTS", says = "and was not checked:")
    static void checkOnce() {
        ProxyWalk p = on("roads 0;town;town;way 0 1 1;sentence 1 9 5;walker 9", "go 1");
        p.take(0, 0);
        p.day();
        p.check(0);
        refused(p, "twice", () -> p.check(0), NONE);
        p.day();
        refused(p, "when it is paid", () -> p.check(0), NONE);
        p.undo();
        due("the day is undone, not the check", p.sentence(0, 6), 1);
        refused(p, "checked still", () -> p.check(0), NONE);
        p.undo();
        due("the check is undone", p.sentence(0, 6), 0);
        due("it can be again", p.check(0), 0);
    }

    @Sentence(of = "Terms II, ACTS", says = "if it is so falsely, the WALKER who bought the shell may not TAKE any for BANNED DAYS, this one the first")
    static void whoBoughtItIsBanned() {
        ProxyWalk p = on(STALL);
        days(p, 2);
        p.take(0, 0);
        p.shell(0, 0);
        p.swap(0, 1);
        due("walker 1's now", p.walker(1, 4), 1);
        due("falsely", p.check(0), 1);
        due("who bought it: day 2 + 6", p.walker(0, 3), 8);
        due("whose it was", p.walker(1, 3), 0);
        refused(p, "this day", () -> p.take(0, 1), NONE);
        due("not the other one", p.take(1, 0), 1);
        days(p, 5);
        refused(p, "day 7", () -> p.take(0, 1), NONE);
        p.day();
        due("day 8", p.take(0, 1), 1);
        ProxyWalk q = on(STALL.replace("roads 6", "roads 0"));
        q.take(0, 0);
        q.shell(0, 0);
        q.check(0);
        due("for no days", q.take(0, 1), 1);
    }

    @Sentence(of = "Terms II, ACTS", says = "their PURSE has its FEE less, 0 at least, if it is PAID")
    static void theFeeIsGivenBack() {
        ProxyWalk p = on(STALL);
        p.take(0, 0);
        p.shell(0, 0);
        due("not paid", p.check(0), 1);
        due("nothing less", p.walker(0, 2), 5);
        p.undo();
        p.day();
        due("paid", p.walker(0, 2), 35);
        p.check(0);
        due("30 less", p.walker(0, 2), 5);
        p.undo();
        p.undo();
        p.swap(0, 1);
        p.day();
        due("another is paid", p.walker(1, 2), 34);
        p.check(0);
        due("who bought it has 0 at least", p.walker(0, 2), 0);
        due("not the other one", p.walker(1, 2), 34);
        ProxyWalk q = on("roads 6;town;shop 0 4;sentence 0 0 5;walker 9;walker 0");
        q.take(0, 0);
        q.shell(0, 0);
        q.swap(0, 1);
        q.day();
        q.check(0);
        due("5 of 5 less", q.walker(0, 2), 0);
        due("the other one stays", q.walker(1, 2), 5);
    }

    @Sentence(of = "Terms II, ACTS", says = "and it is as at first: nobody's, not SEALED, not PAID, not checked;")
    static void asAtFirst() {
        for (int paid = 0; paid < 2; paid++) {
            ProxyWalk p = on(STALL);
            p.take(0, 1);
            p.shell(0, 1);
            days(p, paid);
            p.check(1);
            due("nobody's", p.sentence(1, 3), NONE);
            due("not sealed", p.sentence(1, 4), 0);
            due("not paid", p.sentence(1, 5), 0);
            due("not checked", p.sentence(1, 6), 0);
            due("theirs", p.walker(0, 4), 0);
            refused(p, "again", () -> p.check(1), NONE);
            due("another takes it", p.take(1, 1), 1);
            due("and has it sealed", p.day(), 1);
            due("rightly", p.check(1), 0);
            due("checked", p.sentence(1, 6), 1);
        }
    }

    @Sentence(of = "Terms II, ACTS", says = "else it was checked).")
    static void elseItWasChecked() {
        ProxyWalk p = on("roads 5;town;town;way 0 1 1;sentence 1 9 5;sentence 1 9 6;walker 9", "go 1");
        p.take(0, 0);
        p.take(0, 1);
        p.day();
        due("rightly", p.check(1), 0);
        due("checked", p.sentence(1, 6), 1);
        due("not the other one", p.sentence(0, 6), 0);
        due("still sealed", p.count(8), 3);
        due("still theirs", p.walker(0, 4), 3);
        due("not banned", p.walker(0, 3), 0);
        p.day();
        due("paid", p.walker(0, 2), 20);
        due("still checked", p.sentence(1, 6), 1);
    }

    @Sentence(of = "Terms II, ACTS", says = "The last 20 ACTS can be UNDONE, the last first.")
    static void twentyActs() {
        ProxyWalk p = on("roads 6;town;town;shop 0 4;way 0 1 1;sentence 0 0 30;sentence 0 20 8;walker 9;walker 4", "go 1 if day>19 and walker=0");
        String[] states = new String[30];
        for (int i = 0; i < 30; i++) {
            states[i] = state(p);
            due("acts", p.count(12), Math.min(i, 20));
            switch (i) {
                case 12: due("take", p.take(0, 0), 1); break;
                case 13: due("shell", p.shell(0, 0), 5); break;
                case 17: due("check", p.check(0), 1); break;
                case 21: due("take", p.take(1, 1), 1); break;
                case 22: due("giveBack", p.giveBack(1, 1), 0); break;
                case 23: due("take", p.take(1, 0), 1); break;
                case 24: due("swap", p.swap(0, 1), true); break;
                default: p.day(); break;
            }
        }
        due("20", p.count(12), 20);
        for (int i = 29; i >= 10; i--) {
            due("undo", p.undo(), i - 10);
            // How many can be undone is the one thing that is not as it was.
            due("as it was ahead of act " + i, withoutActs(state(p)).equals(withoutActs(states[i])), true);
        }
        refused(p, "no more", p::undo, -2);
    }

    private static String withoutActs(String state) {
        String[] all = state.split(" ");
        all[12] = "";
        return String.join(" ", all);
    }
}
