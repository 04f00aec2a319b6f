import java.util.function.IntSupplier;

/** Terms III: a test of its own for each sentence about what is asked, LOGS, DRAWS and IMAGES. */
public final class TermsIIITest extends Bench {
    public static void main(String[] args) {
        runAll(TermsIIITest.class, args);
    }

    // ---- AHEAD, WAY, MEET

    @Sentence(of = "Terms III", says = "(By what is asked nothing changes;")
    static void nothingChanges() {
        ProxyWalk p = on(RING, SEEKER, "go 1");
        p.take(0, 0);
        p.take(1, 1);
        p.day();
        p.log(3, 0, NONE);
        p.seed(12345);
        String before = state(p);
        IntSupplier[] asked = {() -> p.ahead(0, 100, 0), () -> p.way(0, 2, 1), () -> p.meet(0, 1), () -> p.round(0, 0), () -> p.parted(0),
            () -> p.seals(2, 1), () -> p.saves(0), () -> p.owed(0, 0), () -> p.choose(0, 100, 0), () -> p.ruled(1), () -> p.look(60, 0),
            () -> p.years(10, 60, 50, 1), () -> p.sentence(0, 3), () -> p.walker(0, 1), () -> p.shop(1), () -> p.count(13), () -> p.image(2)};
        for (int i = 0; i < asked.length; i++) {
            int once = asked[i].getAsInt();
            due("asked " + i, before.equals(state(p)), true);
            due("asked " + i + " twice", asked[i].getAsInt(), once);
        }
    }

    @Sentence(of = "Terms III", says = "DAYS go on by the RULE IN FORCE, beyond 999, too.)")
    static void daysGoOn() {
        ProxyWalk p = on("roads 0;town;town;town;way 0 1 1;way 0 2 1;sentence 1 299 5;walker 0;walker 0", "go 1 if walker=0", "go town if walker=0");
        due("by rule 0", p.ahead(0, 1, 0), 1);
        due("by rule 0", p.choose(0, 2, 1), 5);
        p.force(1);
        due("by rule 1", p.ahead(0, 1, 0), 2);
        due("by rule 1", p.choose(0, 2, 1), 0);
        p.force(NONE);
        due("by none", p.ahead(0, 100, 0), 0);
        // It takes more than 512 calls to come there; the class keeps to it all the same.
        ProxyWalk q = on("roads 0;town;town;way 0 1 1;walker 0;walker 0", "go 1 if walker=0 and day=990 or walker=1 and day>=1000");
        for (int d = 0; d < 991; d++) q.day();
        due("in town 1", q.walker(0, 0), 1);
        due("on day 1000", q.ahead(1, 9, 0), 0);
        due("on day 1001", q.ahead(1, 10, 0), 1);
        due("they meet at the begin of day 1001", q.meet(0, 1), 1001);
        due("at the begin of day 1090", q.ahead(1, 99, 0), 0);
        due("at the begin of day 1091", q.ahead(1, 100, 0), 1);
    }

    @Sentence(of = "Terms III, AHEAD", says = "AHEAD n DAYS (0 to 100):")
    static void ahead0To100() {
        ProxyWalk p = on("roads 0;town;town;way 0 1 1;walker 0", "go 1 if day=0 or day=99");
        due("0", p.ahead(0, 0, 0), 0);
        due("1", p.ahead(0, 1, 0), 1);
        due("99", p.ahead(0, 99, 0), 1);
        due("100", p.ahead(0, 100, 0), 0);
        for (int what = 0; what < 3; what++) {
            due("-1", p.ahead(0, -1, what), -2);
            due("101", p.ahead(0, 101, what), -2);
        }
    }

    @Sentence(of = "Terms III, AHEAD", says = "where a WALKER is (NONE: on a WAY);")
    static void aheadWhere() {
        ProxyWalk p = on("roads 0;town;town;way 0 1 3;walker 0;walker 0", "go 1 if walker=1");
        int[] where = {0, NONE, NONE, 1, NONE, NONE, 0};
        for (int n = 0; n < where.length; n++) {
            due("walker 1 in " + n, p.ahead(1, n, 0), where[n]);
            due("walker 0 in " + n, p.ahead(0, n, 0), 0);
        }
        p.day();
        due("on a way now", p.ahead(1, 0, 0), NONE);
        due("from now on", p.ahead(1, 2, 0), 1);
    }

    @Sentence(of = "Terms III, AHEAD", says = "their PURSE; how many SENTENCES are PAID.")
    static void aheadPurseAndPaid() {
        ProxyWalk p = on("roads 0;town;town;way 0 1 1;sentence 1 9 5;sentence 1 9 6;sentence 0 9 7;walker 1;walker 2", "go 1 if walker=0");
        p.take(0, 0);
        p.take(0, 1);
        p.take(1, 2);
        int[] purse0 = {1, 1, 12};
        int[] purse1 = {2, 9, 9};
        int[] paid = {0, 1, 3};
        for (int n = 0; n < 3; n++) {
            due("PURSE of 0 in " + n, p.ahead(0, n, 1), purse0[n]);
            due("PURSE of 1 in " + n, p.ahead(1, n, 1), purse1[n]);
            due("PAID in " + n, p.ahead(0, n, 2), paid[n]);
        }
        days(p, 2);
        due("PAID already", p.ahead(0, 0, 2), 3);
    }

    @Sentence(of = "Terms III, WAY", says = "WAY from a TOWN to another one: the fewest DAYS;")
    static void fewestDays() {
        ProxyWalk p = on("roads 0;town;town;town;town;town;town;town;town;way 0 7 9;way 0 1 1;way 1 2 1;way 2 3 1;way 3 4 1;way 4 5 1;way 5 6 1;way 6 7 1");
        for (int a = 0; a < 8; a++) for (int b = 0; b < 8; b++) due("way " + a + " " + b, p.way(a, b, 0), Math.abs(a - b));
        ProxyWalk q = on("roads 0;town;town;town;town;way 0 1 9;way 1 2 9;way 2 3 9;way 3 0 8");
        due("the other way round", q.way(0, 2, 0), 17);
        due("9 and 9", q.way(1, 3, 0), 17);
        due("27 or 8", q.way(0, 3, 0), 8);
    }

    @Sentence(of = "Terms III, WAY", says = "the next TOWN, of several the least.")
    static void nextTown() {
        ProxyWalk p = on("roads 0;town;town;town;town;town;way 0 4 5;way 0 3 2;way 3 4 3;way 0 2 2;way 2 4 3;way 0 1 2;way 1 4 4");
        due("by 2, 3 or at once", p.way(0, 4, 1), 2);
        due("back by home at once", p.way(4, 0, 1), 0);
        due("next to it", p.way(0, 3, 1), 3);
        due("not by 1", p.way(1, 4, 1), 4);
        due("from 2 to 3 by home", p.way(2, 3, 1), 0);
        due("from 1 to 2 by home", p.way(1, 2, 1), 0);
    }

    @Sentence(of = "Terms III, MEET", says = "MEET of two WALKERS: the first DAY, this one the first, of 100, at whose begin both are in one TOWN.")
    static void meetWithin100Days() {
        String roads = "roads 0;town;town;way 0 1 1;walker 0;walker 0;walker 0";
        due("this day", on(roads, "go 1").meet(0, 1), 0);
        for (int later : new int[] {1, 50, 98, 99, 100, 150}) {
            ProxyWalk p = on(roads, "go 1 if walker=0 and [day=4 or day=" + (4 + later) + "]");
            days(p, 5);
            due("in " + later + " days", p.meet(0, 1), later > 99 ? -2 : 5 + later);
            due("the other way round", p.meet(1, 0), later > 99 ? -2 : 5 + later);
            due("they are together", p.meet(1, 2), 5);
        }
        ProxyWalk q = on("roads 0;town;town;way 0 1 2;walker 0;walker 0", "go 1");
        q.day();
        due("on the same way is no meeting", q.meet(0, 1), 2);
        ProxyWalk r = on("roads 0;town;town;town;way 0 1 1;way 0 2 1;walker 0;walker 0", "go 1 if walker=0 and town=1;go 1 if walker=1 and town=2");
        r.day();
        due("in two towns is no meeting", r.meet(0, 1), -2);
    }

    // ---- ROUND

    @Sentence(of = "Terms III, ROUND", says = "ROUND of a WALKER in a TOWN:")
    static void roundFromATown() {
        ProxyWalk p = on("roads 0;town;town;way 0 1 2;sentence 1 99 5;walker 0", "go 1");
        due("at home", p.round(0, 2), 4);
        p.day();
        for (int what = 0; what < 3; what++) due("on a way", p.round(0, what), -3);
        p.day();
        due("in town 1", p.round(0, 0), 5);
        due("in town 1", p.round(0, 2), 2);
    }

    @Sentence(of = "Terms III, ROUND", says = "of the SENTENCES that are theirs, or nobody's, not SEALED, not PAID,")
    static void roundOfWhichSentences() {
        ProxyWalk p = on("roads 0;town;town;shop 0 1;way 0 1 1;sentence 1 99 1;sentence 1 99 2;sentence 1 99 4;sentence 1 99 8;sentence 1 99 16;walker 9;walker 9");
        due("all are nobody's", p.round(0, 1), 31);
        p.take(0, 0);
        p.take(1, 1);
        due("another's", p.round(0, 1), 29);
        due("of the other one", p.round(1, 1), 30);
        p.take(0, 2);
        p.shell(0, 2);
        due("sealed", p.round(0, 1), 25);
        p.take(0, 3);
        p.shell(0, 3);
        p.day();
        due("paid", p.count(9), 12);
        due("paid", p.round(0, 1), 17);
        due("FEES", p.round(0, 0), 17);
        p.check(2);
        due("as at first", p.round(0, 1), 21);
    }

    @Sentence(of = "Terms III, ROUND", says = "the set they could have SEALED, each by its DAY, one behind the other by the shortest ways from now on, whose FEES together are most;")
    static void roundOfMostFees() {
        String star = "roads 0;town;town;town;way 0 1 2;way 0 2 2;walker 0;";
        due("both, the second one first", on(star + "sentence 1 5 5;sentence 2 1 5").round(0, 1), 3);
        due("not both", on(star + "sentence 1 4 5;sentence 2 1 5").round(0, 1), 1);
        due("not both, the dearer", on(star + "sentence 1 4 5;sentence 2 1 6").round(0, 1), 2);
        due("by day 1", on(star + "sentence 1 1 5").round(0, 1), 1);
        due("by day 0", on(star + "sentence 1 0 5").round(0, 1), 0);
        String line = "roads 0;town;town;town;way 0 1 2;way 1 2 3;way 0 2 9;walker 0;";
        due("by the shortest way", on(line + "sentence 2 4 5").round(0, 1), 1);
        due("a day too late", on(line + "sentence 2 3 5").round(0, 1), 0);
        ProxyWalk p = on(line + "sentence 2 4 5;sentence 1 1 5");
        due("on the way", p.round(0, 1), 3);
        p.day();
        due("from now on", p.round(0, 1), 0);
        ProxyWalk q = on("roads 0;town;town;town;town;way 0 1 1;way 0 2 1;way 0 3 1;walker 0;sentence 1 0 9;sentence 2 2 9;sentence 3 0 20;sentence 2 4 1;"
            + "sentence 1 2 8;sentence 3 4 3");
        due("3 and 2, not 1", q.round(0, 0), 20 + 3 + 9 + 1);
        due("3 and 2, not 1", q.round(0, 1), 4 + 32 + 2 + 8);
        due("out and back twice", q.round(0, 2), 4);
    }

    @Sentence(of = "Terms III, ROUND", says = "of several that after which they can be home soonest, then the least as bits")
    static void roundOfSeveral() {
        String star = "roads 0;town;town;town;town;way 0 1 3;way 0 2 2;way 0 3 2;walker 0;";
        due("home soonest", on(star + "sentence 1 2 5;sentence 2 1 5").round(0, 1), 2);
        due("the least as bits", on(star + "sentence 1 2 5;sentence 2 1 5;sentence 3 1 5").round(0, 1), 2);
        due("the least as bits", on(star + "sentence 2 1 0;sentence 2 1 5;sentence 2 1 0").round(0, 1), 2);
        due("for nothing none", on(star + "sentence 2 1 0").round(0, 1), 0);
        due("one of 9 or three of 3", on(star + "sentence 1 2 9;sentence 2 1 3;sentence 2 1 3;sentence 2 1 3").round(0, 1), 14);
        due("not by bits ahead of home", on(star + "sentence 1 2 9;sentence 2 1 3;sentence 2 1 6").round(0, 1), 6);
        due("not by bits ahead of home", on(star + "sentence 0 0 0;sentence 2 1 3").round(0, 1), 2);
    }

    @Sentence(of = "Terms III, ROUND", says = "(a set from which there is no way home is none):")
    static void roundWithoutAWay() {
        ProxyWalk p = on("roads 0;town;town;town;town;way 0 1 1;way 2 3 1;sentence 2 99 50;sentence 1 99 3;sentence 3 99 60;walker 0");
        due("no way there, so no way home from there", p.round(0, 0), 3);
        due("the set", p.round(0, 1), 2);
        due("days", p.round(0, 2), 2);
        ProxyWalk q = on("roads 0;town;town;sentence 1 99 50;walker 0");
        due("none at all", q.round(0, 0), 0);
        due("none at all", q.round(0, 1), 0);
        due("none at all", q.round(0, 2), 0);
    }

    @Sentence(of = "Terms III, ROUND", says = "FEES; the set; how many DAYS they go till they are home.")
    static void roundAnswers() {
        ProxyWalk p = on("roads 0;town;town;town;way 0 1 2;way 1 2 3;way 0 2 4;sentence 1 99 7;sentence 2 99 8;walker 0", "go 3-town");
        due("FEES", p.round(0, 0), 15);
        due("the set", p.round(0, 1), 3);
        due("there and home by another way", p.round(0, 2), 9);
        days(p, 2);
        due("from town 1: FEES", p.round(0, 0), 15);
        due("from town 1: DAYS", p.round(0, 2), 7);
        ProxyWalk q = on("roads 0;town;town;way 0 1 2;walker 0", "go 1");
        due("without sentences at home", q.round(0, 2), 0);
        days(q, 2);
        due("without sentences: FEES", q.round(0, 0), 0);
        due("without sentences: the set", q.round(0, 1), 0);
        due("without sentences: home from town 1", q.round(0, 2), 2);
    }

    @Sentence(of = "Terms III, ROUND", says = "(One is SEALED on the last DAY on which they go to its TOWN;")
    static void roundSealedOnTheLastDay() {
        for (int days = 1; days <= 9; days++) {
            String roads = "roads 0;town;town;way 0 1 " + days + ";walker 0;sentence 1 ";
            due("in time", on(roads + (days - 1) + " 5").round(0, 1), 1);
            if (days > 1) due("a day too late", on(roads + (days - 2) + " 5").round(0, 1), 0);
            ProxyWalk p = on(roads + days + " 5");
            p.day();
            due("in time on day 1", p.round(0, 1), 1);
            p.day();
            due("too late on day 2", p.round(0, 1), 0);
        }
        ProxyWalk p = on("roads 0;town;town;way 0 1 2;sentence 0 3 5;sentence 0 2 5;walker 0", "go town");
        days(p, 2);
        due("home on day 3", p.round(0, 1), 1);
        ProxyWalk q = on("roads 0;town;town;way 0 1 2;sentence 1 1 5;sentence 0 3 5;sentence 0 2 50;walker 0");
        due("to town 1 and back", q.round(0, 1), 7);
    }

    @Sentence(of = "Terms III, ROUND", says = "on this one, if it is for the TOWN in which they are.)")
    static void roundSealedThisDay() {
        ProxyWalk p = on("roads 0;town;town;way 0 1 2;sentence 1 2 5;sentence 1 1 6;sentence 0 0 7;sentence 0 2 8;walker 0", "go town");
        due("at home on day 0", p.round(0, 1), 15);
        days(p, 2);
        due("in town 1 on day 2: by 2, not by 1", p.round(0, 1), 1);
        due("and home", p.round(0, 2), 2);
        p.day();
        due("on day 3", p.round(0, 1), 0);
    }

    // ---- PARTED

    @Sentence(of = "Terms III, PARTED", says = "PARTED: likewise for all WALKERS who are in TOWNS together")
    static void partedAmongAllInTowns() {
        String star = "roads 0;town;town;town;town;way 0 1 2;way 0 2 2;way 0 3 2;sentence 1 3 5;sentence 2 3 6;sentence 3 3 7;";
        due("one walker", on(star + "walker 0").parted(0), 7);
        due("two walkers", on(star + "walker 0;walker 0").parted(0), 13);
        due("three walkers", on(star + "walker 0;walker 0;walker 0").parted(0), 18);
        ProxyWalk p = on(star + "walker 0;walker 0;walker 0", "go 1 if walker=1");
        p.day();
        due("one is on a way", p.parted(0), 13);
        due("not who is on a way", p.parted(2), 0);
        due("not who is on a way", p.parted(3), 2);
        p.day();
        due("all in towns, from where they are", p.parted(0), 5 + 6 + 7);
        due("who is there", p.parted(1), 1);
        ProxyWalk q = on(star + "walker 0", "go 1");
        q.day();
        due("all on ways", q.parted(0), 0);
        due("nobody's", q.parted(1), NONE);
        due("without walkers", on("roads 0;town;sentence 0 9 9").parted(0), 0);
    }

    @Sentence(of = "Terms III, PARTED", says = ", each SENTENCE for one at most")
    static void partedForOneAtMost() {
        ProxyWalk p = on("roads 0;town;town;way 0 1 2;sentence 1 1 5;walker 0;walker 0;walker 0");
        due("once", p.parted(0), 5);
        due("for walker 0", p.parted(1), 0);
    }

    @Sentence(of = "Terms III, PARTED", says = "(their own ones for themselves alone):")
    static void partedTheirOwn() {
        ProxyWalk p = on("roads 0;town;town;town;shop 0 1;way 0 1 2;way 0 2 2;sentence 1 1 5;sentence 2 1 6;walker 9;walker 9");
        p.take(1, 0);
        due("all", p.parted(0), 11);
        due("walker 1's own", p.parted(1), 1);
        due("nobody's", p.parted(2), 0);
        p.take(1, 1);
        due("not for another", p.parted(0), 6);
        due("not for another", p.parted(1), NONE);
        due("the dearer", p.parted(2), 1);
        p.shell(1, 1);
        due("not what is sealed", p.parted(0), 5);
        due("not what is sealed", p.parted(2), NONE);
        p.day();
        due("not what is paid", p.parted(2), NONE);
    }

    @Sentence(of = "Terms III, PARTED", says = "FEES of all most; of several the first row (SENTENCE 0 first, nobody ahead of WALKER 0).")
    static void partedTheFirstRow() {
        String star = "roads 0;town;town;town;town;way 0 1 2;way 0 2 2;way 0 3 2;";
        row(on(star + "sentence 1 1 5;sentence 2 1 5;walker 0;walker 0"), 10, 0, 1);
        row(on(star + "sentence 1 1 5;sentence 2 1 5;walker 0"), 5, NONE, 0);
        row(on(star + "sentence 1 1 5;sentence 2 1 5;sentence 3 1 5;walker 0;walker 0"), 10, NONE, 0, 1);
        row(on(star + "sentence 1 1 5;sentence 2 1 4;sentence 3 1 5;walker 0;walker 0"), 10, 0, NONE, 1);
        row(on(star + "sentence 1 1 0;sentence 1 1 5;walker 0;walker 0"), 5, NONE, 0);
        row(on(star + "sentence 1 9 5;sentence 2 9 5;sentence 3 9 5;walker 0;walker 0"), 15, 0, 0, 0);
        row(on(star + "sentence 1 5 5;sentence 2 5 5;sentence 3 5 5;walker 0;walker 0"), 15, 0, 0, 1);
        row(on(star + "sentence 1 1 5;sentence 2 1 5;sentence 1 1 5;sentence 3 1 9;walker 0;walker 0;walker 0"), 24, 0, 1, 0, 2);
        row(on(star + times("sentence 0 0 1;", 6) + "walker 0;walker 0"), 6, 0, 0, 0, 0, 0, 0);
    }

    private static void row(ProxyWalk p, int fees, int... whose) {
        due("FEES", p.parted(0), fees);
        for (int s = 0; s < 6; s++) due("SENTENCE " + s, p.parted(s + 1), s < whose.length ? whose[s] : -2);
    }

    // ---- SEALS, SAVES, OWED

    @Sentence(of = "Terms III, SEALS", says = "SEALS for a TOWN (not home):")
    static void sealsNotHome() {
        ProxyWalk p = on(LINE);
        due("home", p.seals(0, 0), NONE);
        due("home", p.seals(0, 1), NONE);
        due("town 1", p.seals(1, 0), 1);
    }

    @Sentence(of = "Terms III, SEALS", says = "the fewest TOWNS without a shop, this one among them if it has none, not home,")
    static void sealsInTownsWithoutAShop() {
        String line = "roads 0;town;town;town;town;way 0 1 1;way 1 2 1;way 2 3 1";
        seals(on(line), 3, 1, 2);
        seals(on(line + ";shop 1 1"), 3, 1, 4);
        seals(on(line + ";shop 1 1;shop 2 1"), 3, 1, 8);
        seals(on(line + ";shop 1 1;shop 2 1;shop 3 1"), 3, -2, -2);
        seals(on(line + ";shop 2 1;shop 3 1"), 3, 1, 2);
        seals(on(line), 1, 1, 2);
        seals(on(line + ";shop 1 1"), 1, -2, -2);
        seals(on(line + ";shop 0 1"), 1, 1, 2);
        seals(on(line + ";shop 0 1"), 3, 1, 2);
    }

    @Sentence(of = "Terms III, SEALS", says = "one of which is on each way from home to it, itself and all that lie between counted, so that to have been at one of them is asked of all who say they went:")
    static void sealsOnEachWay() {
        String two = "roads 0;town;town;town;town;town;way 0 1 1;way 1 3 1;way 0 2 9;way 2 3 9;way 3 4 1";
        seals(on(two), 4, 1, 8);
        seals(on(two + ";shop 4 1"), 4, 1, 8);
        seals(on(two + ";shop 4 1;shop 3 1"), 4, 2, 6);
        seals(on(two + ";shop 4 1;shop 3 1;shop 2 1"), 4, -2, -2);
        seals(on(two + ";shop 3 1;shop 2 1"), 4, 1, 16);
        seals(on(two + ";shop 3 1;way 0 3 9"), 3, -2, -2);
        seals(on(two + ";way 0 4 1;shop 4 1"), 4, -2, -2);
        seals(on(two + ";way 0 4 1"), 4, 1, 16);
        seals(on(two + ";shop 3 1;way 1 2 1"), 3, 2, 6);
        seals(on(two), 2, 1, 4);
        seals(on("roads 0" + times(";town", 8) + ";shop 7 1;way 0 1 1;way 1 2 1;way 2 3 1;way 3 4 1;way 4 5 1;way 5 6 1;way 6 7 1;"
            + "shop 1 1;shop 2 1;shop 3 1;shop 4 1;shop 5 1"), 7, 1, 64);
        seals(on("roads 0" + times(";town", 8) + ";shop 7 1;way 0 1 1;way 0 2 1;way 0 3 1;way 0 4 1;way 0 5 1;way 0 6 1;"
            + "way 7 1 1;way 7 2 1;way 7 3 1;way 7 4 1;way 7 5 1;way 7 6 1"), 7, 6, 126);
    }

    @Sentence(of = "Terms III, SEALS", says = "how many; of several sets the least as bits.")
    static void sealsTheLeastAsBits() {
        String two = "roads 0;town;town;town;town;town;town;way 0 1 1;way 1 2 1;way 2 5 1;way 0 3 1;way 3 4 1;way 4 5 1;shop 5 1";
        seals(on(two), 5, 2, 10);
        seals(on(two + ";shop 1 1"), 5, 2, 12);
        seals(on(two + ";shop 3 1"), 5, 2, 18);
        seals(on(two + ";shop 1 1;shop 3 1"), 5, 2, 20);
        seals(on("roads 0;town;town;town;way 0 2 1;way 2 1 1"), 1, 1, 2);
        seals(on("roads 0;town;town;town;way 0 2 1;way 2 1 1;shop 1 1"), 1, 1, 4);
    }

    private static void seals(ProxyWalk p, int town, int many, int set) {
        due("how many for " + town, p.seals(town, 0), many);
        due("the set for " + town, p.seals(town, 1), set);
    }

    @Sentence(of = "Terms III, SAVES", says = "SAVES of a SENTENCE: by how many DAYS it is shorter from home to the nearest shop and back than to its TOWN and back")
    static void savesThereAndBack() {
        ProxyWalk p = on("roads 0;town;town;town;town;way 0 1 2;way 1 2 3;way 0 3 9;way 2 3 1;shop 1 99;shop 2 1;"
            + "sentence 3 0 0;sentence 1 0 0;sentence 0 0 0;sentence 2 9 9");
        due("2 * 6 - 2 * 2", p.saves(0), 8);
        due("the shop's own town", p.saves(1), 0);
        due("home: longer", p.saves(2), -4);
        due("2 * 5 - 2 * 2", p.saves(3), 6);
        due("farther away", on("roads 0;town;town;town;way 0 1 2;way 0 2 9;shop 2 1;sentence 1 0 0").saves(0), -14);
    }

    @Sentence(of = "Terms III, SAVES", says = "(if there is a shop that can be come to;")
    static void savesWithAShop() {
        due("no shop", on("roads 0;town;town;way 0 1 2;sentence 1 0 0").saves(0), -1000);
        due("no way to it", on("roads 0;town;town;town;way 0 1 2;shop 2 1;sentence 1 0 0").saves(0), -1000);
        due("no way to one of two", on("roads 0;town;town;town;town;way 0 1 2;way 0 3 1;shop 2 1;shop 3 1;sentence 1 0 0").saves(0), 2);
        due("no way to the town", on("roads 0;town;town;shop 0 1;sentence 1 0 0").saves(0), -1000);
    }

    @Sentence(of = "Terms III, SAVES", says = "a shop at home: 0 DAYS).")
    static void savesWithAShopAtHome() {
        ProxyWalk p = on("roads 0;town;town;way 0 1 7;shop 0 5;shop 1 1;sentence 1 0 0;sentence 0 0 0");
        due("all of it", p.saves(0), 14);
        due("nothing", p.saves(1), 0);
    }

    @Sentence(of = "Terms III, OWED", says = "OWED to a WALKER who dies now, for a SENTENCE of theirs: SEALED: the FEE;")
    static void owedIfSealed() {
        ProxyWalk p = on("roads 0;town;town;town;shop 0 1;way 0 1 1;way 0 2 1;sentence 1 9 50;sentence 2 9 60;sentence 0 9 70;walker 9;walker 9",
            "go town if town=1 and walker=0");
        p.take(0, 0);
        p.take(0, 1);
        due("at home, not sealed", p.owed(0, 1), 0);
        p.shell(0, 1);
        due("falsely sealed", p.owed(0, 1), 60);
        p.take(0, 2);
        p.shell(0, 2);
        due("falsely sealed, for home", p.owed(0, 2), 70);
        p.day();
        due("sealed", p.owed(0, 0), 50);
        due("sealed, far away", p.owed(0, 1), 60);
        due("another's", p.owed(1, 0), NONE);
        ProxyWalk q = on("roads 0;town;town;way 0 1 1;sentence 0 9 50;walker 9;walker 9");
        due("nobody's", q.owed(0, 0), NONE);
        q.take(0, 0);
        q.day();
        due("paid", q.owed(0, 0), NONE);
    }

    @Sentence(of = "Terms III, OWED", says = "else FEE * (DAYS from home to its TOWN less DAYS from where they are, or go to, to it), by the former, downwards,")
    static void owedByTheWay() {
        ProxyWalk p = on("roads 0;town;town;town;town;way 0 1 2;way 1 2 3;way 2 3 2;sentence 3 99 50;sentence 3 99 99;sentence 2 99 10;sentence 1 1 7;walker 0", "go town");
        for (int s = 0; s < 4; s++) p.take(0, s);
        for (int s = 0; s < 4; s++) due("at home", p.owed(0, s), 0);
        p.day();
        due("they go to town 1: 50 * 2 / 7", p.owed(0, 0), 14);
        due("99 * 2 / 7", p.owed(0, 1), 28);
        due("10 * 2 / 5", p.owed(0, 2), 4);
        due("all but sealed", p.owed(0, 3), 7);
        p.day();
        due("they are in town 1", p.owed(0, 0), 14);
        p.day();
        due("they go to town 2: 50 * 5 / 7", p.owed(0, 0), 35);
        due("99 * 5 / 7", p.owed(0, 1), 70);
        due("10 * 5 / 5", p.owed(0, 2), 10);
        ProxyWalk q = on("roads 0;town;town;way 0 1 1;sentence 1 0 50;walker 0", "go town if day>0");
        q.take(0, 0);
        days(q, 2);
        due("too late for a seal", q.sentence(0, 4), 0);
        due("they are there: 50 * 1 / 1", q.owed(0, 0), 50);
    }

    @Sentence(of = "Terms III, OWED", says = "0 at least")
    static void owedZeroAtLeast() {
        ProxyWalk p = on("roads 0;town;town;town;way 0 1 3;way 0 2 4;way 1 2 9;sentence 1 99 50;sentence 2 99 50;walker 0", "go 1 if town=2");
        p.take(0, 0);
        p.take(0, 1);
        p.day();
        due("they go away from it: 3 less 7", p.owed(0, 0), 0);
        due("they go to it", p.owed(0, 1), 50);
        ProxyWalk q = on("roads 0;town;town;town;way 0 1 3;way 0 2 3;way 1 2 3;sentence 1 99 50;walker 0", "go 1 if town=2");
        q.take(0, 0);
        q.day();
        due("as far as from home", q.owed(0, 0), 0);
    }

    @Sentence(of = "Terms III, OWED", says = "(0, if there is no way, or it is home).")
    static void owedWithoutAWay() {
        ProxyWalk p = on("roads 0;town;town;town;way 0 1 3;sentence 2 99 50;sentence 0 0 50;walker 0", "go 1");
        p.take(0, 0);
        p.take(0, 1);
        due("no way", p.owed(0, 0), 0);
        due("home", p.owed(0, 1), 0);
        p.day();
        due("no way from where they go to", p.owed(0, 0), 0);
        due("home, from where they go to", p.owed(0, 1), 0);
    }

    // ---- CHOOSE

    @Sentence(of = "Terms III, CHOOSE", says = "CHOOSE for a WALKER who can TAKE one, for n DAYS (1 to 100):")
    static void chooseFor1To100Days() {
        ProxyWalk p = on("roads 0;town;town;way 0 1 1;sentence 0 0 3;sentence 1 299 5;walker 1", "go 1 if day>=98");
        due("1 day", p.choose(0, 1, 0), 0);
        due("99 days", p.choose(0, 99, 1), 4);
        due("100 days", p.choose(0, 100, 0), 1);
        due("100 days", p.choose(0, 100, 1), 6);
        for (int what = 0; what < 2; what++) {
            due("0 days", p.choose(0, 0, what), -2);
            due("101 days", p.choose(0, 101, what), -2);
        }
        ProxyWalk q = on("roads 3;town;town;shop 0 1;way 0 1 2;sentence 0 99 3;walker 9;walker 9", "go 1 if walker=1");
        q.take(0, 0);
        q.shell(0, 0);
        q.check(0);
        for (int d = 0; d < 3; d++) {
            due("banned on day " + d, q.choose(0, 1, 0), -2);
            due("not banned on day " + d, q.choose(1, 9, 0), d == 0 ? 0 : -2);
            q.day();
        }
        due("not banned any more", q.choose(0, 1, 0), 0);
    }

    @Sentence(of = "Terms III, CHOOSE", says = "which SENTENCE to TAKE now, or none, so that their PURSE is most then;")
    static void chooseTheMost() {
        String roads = "roads 0;town;town;town;way 0 1 1;way 0 2 3;sentence 1 299 5;sentence 2 299 50;sentence 0 299 2;walker 1;walker 0";
        ProxyWalk p = on(roads, "go 9-home if has=sealed and has>0;go asked*50 if has>0");
        due("6 days", p.choose(0, 6, 0), 1);
        due("6 days", p.choose(0, 6, 1), 51);
        due("5 days", p.choose(0, 5, 0), 0);
        due("5 days", p.choose(0, 5, 1), 6);
        due("1 day", p.choose(0, 1, 0), 2);
        due("1 day", p.choose(0, 1, 1), 3);
        p.take(1, 1);
        due("another's is not to be taken", p.choose(0, 6, 0), 0);
        p.take(0, 0);
        due("with what they have", p.choose(0, 2, 1), 8);
        due("with what they have", p.choose(0, 2, 0), 2);
    }

    @Sentence(of = "Terms III, CHOOSE", says = "of several none, then the least; how much.")
    static void chooseOfSeveral() {
        ProxyWalk p = on("roads 0;town;town;way 0 1 1;sentence 1 9 5;sentence 0 9 0;sentence 0 9 4;sentence 0 9 4;walker 7;walker 0");
        due("the least", p.choose(0, 1, 0), 2);
        due("how much", p.choose(0, 1, 1), 11);
        p.take(1, 2);
        due("the next", p.choose(0, 1, 0), 3);
        p.take(1, 3);
        due("none ahead of 0", p.choose(0, 1, 0), NONE);
        due("how much", p.choose(0, 1, 1), 7);
        p.take(1, 0);
        p.take(1, 1);
        due("none is left", p.choose(0, 100, 0), NONE);
        due("how much", p.choose(0, 100, 1), 7);
    }

    // ---- LOGS, RULED, LOOK

    @Sentence(of = "Terms III, LOGS", says = "LOGS 0 to 9, told:")
    static void tenLogs() {
        ProxyWalk p = on(LINE, "go town");
        for (int i = 0; i < 10; i++) {
            due("log", p.log(i, 0, i == 0 ? 1 : i % 2 == 0 ? 3 : 2), i + 1);
            due("logs", p.count(11), i + 1);
        }
        due("all ten are so by one rule", p.ruled(0), 1);
        due("all ten are so by rule 0", p.ruled(1), 0);
        refused(p, "an eleventh", () -> p.log(0, 0, 1), -2);
        p.log(NONE, 0, 0);
        for (int i = 0; i < 9; i++) p.log(0, 0, 1);
        due("nine are so", p.ruled(1), 0);
        due("ten", p.log(0, 0, 2), 10);
        due("the tenth is not so", p.ruled(1), -2);
    }

    @Sentence(of = "Terms III, LOGS", says = "behind the n-th DAY of all (0 to 60) a WALKER was in a TOWN, or on a WAY (NONE)")
    static void logsBehindADay() {
        for (int n : new int[] {0, 1, 30, 59, 60}) {
            ProxyWalk p = on("roads 0;town;town;way 0 1 2;walker 0;walker 0", "go 1 if walker=1 and day=" + n);
            due("log", p.log(n, 1, NONE), 1);
            due("on a way", p.ruled(1), 0);
            due("not by none", p.ruled(0), 1);
            p.log(NONE, 0, 0);
            p.log(n, 0, 0);
            due("the other one is at home", p.ruled(0), 2);
            p.log(n, 1, 0);
            due("not at home", p.ruled(0), 1);
            due("but by none", p.ruled(1), NONE);
            p.log(NONE, 0, 0);
            p.log(n, 1, 1);
            due("not in town 1", p.ruled(0), 0);
            p.log(NONE, 0, 0);
            if (n < 60) {
                p.log(n + 1, 1, 1);
                due("in town 1 a day on", p.ruled(1), 0);
            }
        }
        ProxyWalk p = on("roads 0;town;walker 0");
        due("61", p.log(61, 0, 0), -2);
        due("-2", p.log(-2, 0, 0), -2);
    }

    @Sentence(of = "Terms III, LOGS", says = ", all as the text told it, but that WALKER 0 had TAKEN SENTENCE 0 at the begin, 1 SENTENCE 1, and so on, as many as there are of both.")
    static void logsAsTheTextToldIt() {
        String towns = "roads 9;town;town;town;town;shop 0 1;way 0 1 1;way 0 2 1;way 0 3 1;";
        ProxyWalk p = on(towns + "sentence 1 9 1;sentence 2 9 1;sentence 3 9 1;sentence 1 9 1;walker 5;walker 5;walker 5", "go asked*has if purse=5 and day=0");
        p.take(2, 0);
        p.shell(2, 0);
        p.take(0, 1);
        days(p, 2);
        p.log(0, 0, 1);
        p.log(0, 1, 2);
        p.log(0, 2, 3);
        due("each by their own", p.ruled(1), 0);
        ProxyWalk q = on(towns + "sentence 1 9 1;walker 5;walker 5", "go asked");
        q.log(0, 0, 1);
        q.log(0, 1, 0);
        due("more walkers than sentences", q.ruled(1), 0);
        ProxyWalk r = on(towns + "sentence 1 9 1;sentence 2 9 1;walker 5", "go asked");
        r.log(0, 0, 1);
        r.log(60, 0, 1);
        due("more sentences than walkers", r.ruled(1), 0);
        ProxyWalk s = on(towns + "walker 5", "go asked");
        s.log(60, 0, 0);
        due("without sentences", s.ruled(0), 2);
        ProxyWalk t = on(towns + "sentence 1 9 1;walker 5", "go 9-town if has=1 and sealed=has;go 1 if day=2 and town=3 and purse=6;go asked");
        t.log(0, 0, 1);
        t.log(1, 0, 0);
        t.log(2, 0, 3);
        due("they are sealed and paid", t.ruled(1), 0);
    }

    @Sentence(of = "Terms III, RULED", says = "RULED: by which of the RULES, and of none, all LOGS are so: how many; the first (none ahead of 0, told as NONE).")
    static void ruledByWhich() {
        ProxyWalk p = on("roads 0;town;town;town;way 0 1 1;way 0 2 1;walker 0;walker 0", "go 0", "go town", "go 1", "go 1 if walker=1", "go 3-town");
        p.force(4);
        due("no logs: all and none", p.ruled(0), 6);
        due("none is the first", p.ruled(1), NONE);
        p.log(0, 0, 0);
        due("none, 0 and 3", p.ruled(0), 3);
        due("none is the first", p.ruled(1), NONE);
        p.log(0, 1, 1);
        due("3", p.ruled(0), 1);
        due("3", p.ruled(1), 3);
        p.log(NONE, 0, 0);
        p.log(0, 0, 1);
        due("2 and 4", p.ruled(0), 2);
        due("2 is the first", p.ruled(1), 2);
        p.log(1, 0, 0);
        due("2 and 4 still", p.ruled(0), 2);
        p.log(1, 1, 1);
        due("no rule, nor none", p.ruled(0), 0);
        due("no rule, nor none", p.ruled(1), -2);
        due("without rules, none", on("roads 0").ruled(0), 1);
        due("without rules, none", on("roads 0").ruled(1), NONE);
    }

    @Sentence(of = "Terms III, LOOK", says = "LOOK behind the n-th DAY: the WALKER by whose TOWN (or WAY) these part best: the most alike are fewest, of several the least; how many.")
    static void lookWhereTheyPart() {
        String star = "roads 0;town;town;town;town;way 0 1 1;way 0 2 1;way 0 3 2;walker 0;walker 0;walker 0";
        ProxyWalk p = on(star, "go 1 if walker=1 and town=1", "go 1 if walker=1 and town=2", "go 1 if town=1", "go 1 if walker=2 and town=3");
        // Behind day 0, none and the rules: walker 0 at 0 0 0 1 0, walker 1 at 0 1 2 1 0, walker 2 at 0 0 0 1 way.
        due("the walker", p.look(0, 0), 1);
        due("how many", p.look(0, 1), 2);
        p.log(0, 1, 1);
        // Rules 0 and 2 are left: walker 0 at 0 1, walker 1 at 1 1, walker 2 at 0 1.
        due("of several the least", p.look(0, 0), 0);
        due("how many", p.look(0, 1), 1);
        p.log(NONE, 0, 0);
        p.log(0, 1, 0);
        // None and rule 3 are left.
        due("a way parts from a town", p.look(0, 0), 2);
        due("how many", p.look(0, 1), 1);
        due("behind day 1: town 3", p.look(1, 0), 2);
        due("behind day 60", p.look(60, 1), 1);
        p.log(1, 2, 0);
        due("one is left", p.look(60, 0), 0);
        due("one is left", p.look(60, 1), 1);
        ProxyWalk q = on(star, "go 1 if town=3", "go 9-town", "go 4");
        // Behind day 0, all alike: at 0 way 1 1.
        due("two of four", q.look(0, 1), 2);
        due("the least walker", q.look(0, 0), 0);
        ProxyWalk r = on("roads 0;town;town;way 0 1 1;walker 0;walker 0", "go 0", "go 1 if 1=2", "go 1 if day=60 and walker=1");
        due("all alike", r.look(59, 1), 4);
        due("all alike", r.look(59, 0), 0);
        due("behind the last day", r.look(60, 1), 3);
        due("behind the last day", r.look(60, 0), 1);
        ProxyWalk s = on("roads 0" + times(";town", 8) + ";way 0 7 1;way 0 1 2;way 0 6 1;walker 0;walker 0;walker 0",
            "go 1 if town=7", "go 1 if town=1", "go 2-town", "go 1 if town=1 and walker<2;go 1 if town=6");
        // Behind day 0, none and the rules: walkers 0 and 1 at 0 7 way way way, walker 2 at 0 7 way way 6.
        due("the last town, and ways", s.look(0, 0), 2);
        due("the last town, and ways", s.look(0, 1), 2);
        s.log(0, 1, NONE);
        due("on ways most are alike", s.look(0, 1), 2);
        s.log(0, 2, NONE);
        due("on ways all are alike", s.look(0, 1), 2);
        due("on ways all are alike", s.look(0, 0), 0);
        ProxyWalk t = on("roads 0;town;town;town;way 0 1 1;way 1 2 1;walker 0", "go town", "go town if town=1", "go town if day>5");
        t.log(9, 0, 2);
        due("behind day 0, whatever day was told: 1 0", t.look(0, 1), 1);
        due("behind day 1: 2 0", t.look(1, 1), 1);
        due("behind day 5: 2 0", t.look(5, 1), 1);
        due("behind day 6: 1 1", t.look(6, 1), 2);
    }

    // ---- DRAWS, YEARS

    private static long next(long x) {
        return (x * 1103515245L + 12345L) % 2147483648L;
    }

    @Sentence(of = "Terms III, DRAWS", says = "DRAWS: x (0 to 2147483647; 0 at first) becomes x * 1103515245 + 12345, of 2147483648 the rest; a DRAW is x / 65536.")
    static void draws() {
        ProxyWalk p = on("roads 0;town;town;way 0 1 9;walker 5", "go 1");
        p.day();
        due("0 at first", p.count(13), 0);
        for (int x : new int[] {0, 1, 2, 65535, 65536, 1073741823, 1073741824, 2147418112, 2147483646, 2147483647, 123456789, 987654321}) {
            p.seed(x);
            int draw = (int) (next(x) / 65536 % 100);
            due("below " + draw + " of x " + x, p.years(1, 1, draw, 0), 0);
            due("below " + (draw + 1) + " of x " + x, p.years(1, 1, draw + 1, 0), 1);
            long y = next(next(x));
            int second = (int) (y / 65536 % 100);
            int both = (draw < second + 1 ? 1 : 0) + 1;
            due("the second of x " + x, p.years(2, 1, second + 1, 0), both);
            due("the second of x " + x, p.years(2, 1, second, 0), draw < second ? 1 : 0);
        }
    }

    @Sentence(of = "Terms III, YEARS", says = "YEARS m times (1 to 10) n DAYS (1 to 60) from now on:")
    static void yearsTimesDays() {
        ProxyWalk p = on("roads 0;town;town;way 0 1 9;sentence 0 0 50;walker 5", "go 1");
        due("m 1, n 1, in a town", p.years(1, 1, 100, 0), 0);
        due("m 1, n 60", p.years(1, 60, 100, 0), 59);
        due("m 10, n 60", p.years(10, 60, 100, 0), 590);
        due("m 10, n 2", p.years(10, 2, 100, 0), 10);
        p.day();
        due("from now on", p.years(1, 1, 100, 0), 1);
        due("from now on, each time", p.years(10, 1, 100, 0), 10);
        for (int what = 0; what < 2; what++) {
            due("m 0", p.years(0, 1, 50, what), NONE);
            due("m 11", p.years(11, 1, 50, what), NONE);
            due("n 0", p.years(1, 0, 50, what), NONE);
            due("n 61", p.years(1, 61, 50, what), NONE);
        }
    }

    @Sentence(of = "Terms III, YEARS", says = "ahead of each, of each WALKER who is on a WAY then, by numbers, a DRAW mod 100: below p (0 to 100) they are robbed: PURSE 0, and a DAY more to go:")
    static void yearsOfThieves() {
        ProxyWalk p = on("roads 0;town;town;way 0 1 2;sentence 1 5 50;walker 5;walker 7", "go 1 if walker=0");
        p.take(0, 0);
        due("in a town nobody is robbed", p.years(1, 1, 100, 1), 12);
        due("walker 0 is, on day 1", p.years(1, 2, 100, 1), 7);
        due("and on all days", p.years(1, 60, 100, 0), 59);
        due("never", p.years(1, 60, 0, 0), 0);
        due("and is paid on day 3", p.years(1, 4, 0, 1), 62);
        due("not on day 2", p.years(1, 3, 0, 1), 12);
        due("p -1", p.years(1, 1, -1, 0), NONE);
        due("p 101", p.years(1, 1, 101, 0), NONE);
        int found = 0;
        for (int x = 0; x < 400 && found < 40; x++) {
            p.seed(x * 5000011);
            long one = next(x * 5000011L);
            long two = next(one);
            long three = next(two);
            boolean[] below = {one / 65536 % 100 < 50, two / 65536 % 100 < 50, three / 65536 % 100 < 50};
            if (!below[0] || below[1] || below[2]) continue;
            found++;
            due("robbed on day 1, there a day later", p.years(1, 3, 50, 0), 1);
            due("home on day 4", p.years(1, 4, 50, 1), 7);
            due("paid on day 4, from 0", p.years(1, 5, 50, 1), 57);
        }
        due("such x are found", found > 3, true);
        ProxyWalk q = on("roads 0;town;town;way 0 1 9;walker 5;walker 70", "go 1");
        q.day();
        for (int x = 0; x < 40; x++) {
            q.seed(x * 50000017);
            long one = next(x * 50000017L);
            long two = next(one);
            int purses = (one / 65536 % 100 < 50 ? 0 : 5) + (two / 65536 % 100 < 50 ? 0 : 70);
            due("walker 0 ahead of walker 1, x " + x * 50000017, q.years(1, 1, 50, 1), purses);
        }
    }

    @Sentence(of = "Terms III, YEARS", says = "how often; all PURSES at the end, all together (x as it was).")
    static void yearsAnswers() {
        ProxyWalk p = on("roads 0;town;town;way 0 1 2;sentence 0 0 50;walker 5;walker 7;walker 9", "go 1 if walker=1");
        due("all purses", p.years(1, 1, 0, 1), 21);
        due("of all times", p.years(10, 1, 0, 1), 210);
        due("of all times", p.years(3, 2, 100, 1), 42);
        p.take(0, 0);
        due("at the end", p.years(2, 1, 0, 1), 142);
        for (int x : new int[] {0, 7, 2147483647}) {
            p.seed(x);
            p.years(10, 60, 50, 0);
            p.years(10, 60, 50, 1);
            due("x as it was", p.count(13), x);
        }
    }

    // ---- IMAGES

    @Sentence(of = "Terms III, IMAGES", says = "IMAGES 0 to 3:")
    static void fourImages() {
        ProxyWalk p = on("roads 0;town;walker 5");
        for (int k = 0; k < 4; k++) {
            due("image", p.image(k), k);
            p.day();
        }
        for (int k = 3; k >= 0; k--) {
            due("back", p.back(k), k);
            due("DAY", p.count(7), k);
        }
        due("DAY of 2 again", p.back(2), 2);
        refused(p, "image(4)", () -> p.image(4), NONE);
        refused(p, "image(-1)", () -> p.image(-1), NONE);
        refused(p, "back(4)", () -> p.back(4), NONE);
        refused(p, "back(-1)", () -> p.back(-1), NONE);
    }

    @Sentence(of = "Terms III, IMAGES", says = "all but the RULES and the TAPE, as it is (the RULE IN FORCE, what can be UNDONE, too);")
    static void imagesHoldAll() {
        ProxyWalk p = on(RING, SEEKER, "go 1");
        p.take(0, 0);
        p.take(1, 1);
        days(p, 3);
        p.log(2, 0, NONE);
        p.seed(99);
        String[] pasts = pasts(p);
        days(p, 3);
        p.image(1);
        String before = state(p);
        roads(p, PAIR);
        p.take(0, 0);
        p.shell(0, 0);
        p.day();
        p.check(0);
        p.force(1);
        p.log(NONE, 0, 0);
        p.log(0, 0, 0);
        p.log(1, 0, 0);
        p.seed(5);
        due("not as it was", before.equals(state(p)), false);
        due("back", p.back(1), 6);
        due("as it was", state(p), before);
        due("the rule in force", p.count(6), 0);
        due("what can be undone", p.count(12), 8);
        for (int i = 0; i < 3; i++) p.undo();
        for (int i = 0; i < pasts.length; i++) {
            due("undone as it was", state(p), pasts[i]);
            if (i + 1 < pasts.length) p.undo();
        }
        refused(p, "no more", p::undo, -2);
    }

    @Sentence(of = "Terms III, IMAGES", says = "all but the RULES and the TAPE, as it is (the RULE IN FORCE, what can be UNDONE, too);")
    static void imagesHoldChecksAndLogs() {
        ProxyWalk p = on("roads 5;town;town;shop 0 1;way 0 1 1;sentence 0 9 3;sentence 1 9 4;walker 9;walker 8", "go 1 if walker=1");
        p.take(0, 0);
        p.take(1, 1);
        p.shell(1, 1);
        p.day();
        p.check(0);
        p.log(0, 1, 1);
        p.image(0);
        due("falsely", p.check(1), 1);
        p.log(NONE, 0, 0);
        p.log(1, 0, 0);
        due("none too", p.ruled(0), 2);
        p.image(1);
        roads(p, "roads 5;town;town;shop 0 1;way 0 1 1;sentence 0 9 3;sentence 1 9 4;walker 9;walker 8");
        due("not checked", p.sentence(0, 6), 0);
        p.back(0);
        due("checked", p.sentence(0, 6), 1);
        due("the LOG: not none", p.ruled(0), 1);
        due("the LOG: rule 0", p.ruled(1), 0);
        due("bought", p.check(1), 1);
        due("by walker 1", p.walker(1, 3), 6);
        due("not by walker 0", p.walker(0, 3), 0);
        p.back(1);
        due("the other LOG", p.ruled(0), 2);
        due("found out", p.sentence(1, 4), 0);
        due("found out", p.walker(1, 3), 6);
        p.back(0);
        p.log(NONE, 0, 0);
        for (int n = 0; n < 10; n++) p.log(n, 1, n % 2 == 0 ? 1 : 0);
        p.image(2);
        p.log(NONE, 0, 0);
        for (int n = 0; n < 10; n++) p.log(0, 0, 1);
        due("not so", p.ruled(0), 0);
        p.back(2);
        due("all ten LOGS", p.ruled(0), 1);
        due("all ten LOGS", p.count(11), 10);
    }

    private static void due(String call, String got, String want) {
        due(call, got.equals(want), true);
    }

    /** How it was ahead of each ACT, the last first; the ACTS are done again. */
    private static String[] pasts(ProxyWalk p) {
        String[] all = new String[p.count(12) + 1];
        p.image(0);
        for (int i = 0; i < all.length; i++) {
            all[i] = state(p);
            p.undo();
        }
        p.back(0);
        return all;
    }

    @Sentence(of = "Terms III, IMAGES", says = "gone back to, it is as it was (these stay).")
    static void rulesAndTapeStay() {
        ProxyWalk p = on(PAIR, "go 1");
        p.image(0);
        rule(p, "go town");
        p.force(1);
        p.feed(0x676f2037, 0, 0, 0, 0);
        p.end(4);
        due("back", p.back(0), 0);
        due("RULES stay", p.count(5), 2);
        due("the TAPE stays", p.count(14), 4);
        due("as it is", p.rule(), 2);
        due("the rule in force", p.count(6), 0);
        due("the new rule", p.force(2), 0);
        p.image(3);
        due("other images stay", p.back(0), 0);
        due("the rule in force", p.count(6), 0);
        due("other images stay", p.back(3), 0);
        due("the rule in force", p.count(6), 2);
    }
}
