/** Terms I: a test of its own for each sentence about ROADS, RULES and FAULTS. */
public final class TermsITest extends Bench {
    public static void main(String[] args) {
        runAll(TermsITest.class, args);
    }

    // ---- ROADS

    @Sentence(of = "Terms I, ROADS", says = "ROADS are a text of at most 400 bytes")
    static void roadsOf400Bytes() {
        String text = "roads 7;town;walker 1";
        ProxyWalk p = new ProxyWalk();
        tell(p, text + times(" ", 400 - text.length() - 1) + "2");
        due("bytes", p.count(14), 400);
        refused(p, "more bytes", () -> p.feed(0x20202020, 0x20202020, 0x20202020, 0x20202020, 0x20202020), NONE);
        due("the last byte is read", p.roads(), fault(399, 0));
        due("400 bytes", roads(p, text.replace(";town", times(" ", 379) + ";town")), 1);
        due("the last byte is read", p.walker(0, 2), 1);
        roadsFault("roads 7;" + times(" ", 392) + "^", 0);
        roadsFault("^" + times(";", 400), 0);
        roadsFault("roads 7;town^" + times("=", 388), 0);
    }

    @Sentence(of = "Terms I, ROADS", says = "CLAUSE { ; CLAUSE }")
    static void roadsClauses() {
        roadsAre("roads 1", 0);
        roadsAre("roads 1;town", 1);
        roadsFault("^", 0);
        roadsFault("^;roads 1", 0);
        roadsFault("roads 1;^", 0);
        roadsFault("roads 1;^;town", 0);
        roadsFault("roads 1 ^town", 0);
        roadsFault("roads 1;town ^town", 0);
        roadsFault("roads 1^,town", 0);
        roadsFault("roads 1^:town", 0);
    }

    @Sentence(of = "Terms I, ROADS", says = "40 at most")
    static void roadsOf40Clauses() {
        roadsAre("roads 1;town" + times(";shop0 1", 38), 1);
        roadsFault("roads 1;town" + times(";shop0 1", 38) + ";^shop0 1", 4);
        roadsFault("roads 1;town" + times(";shop0 1", 38) + ";^town", 4);
    }

    @Sentence(of = "Terms I, ROADS", says = "roads NUMBER (BANNED 0 to 99")
    static void banned0To99() {
        for (int banned : new int[] {0, 1, 98, 99}) due("BANNED", on("roads " + banned).count(0), banned);
        roadsFault("roads ^100", 1);
        roadsFault("roads ^99999", 1);
        roadsFault("roads ^-1", 0);
        roadsFault("roads^", 0);
    }

    @Sentence(of = "Terms I, ROADS", says = "DAYS a walker may not take a sentence who was found out")
    static void bannedForDays() {
        for (int banned : new int[] {0, 1, 2, 99}) {
            ProxyWalk p = on("roads " + banned + ";town;shop 0 1;sentence 0 9 5;walker 3");
            p.take(0, 0);
            p.shell(0, 0);
            due("found out", p.check(0), 1);
            for (int d = 0; d < banned; d++) {
                due("banned for " + banned + " on day " + d, p.take(0, 0), NONE);
                p.day();
            }
            due("free after " + banned, p.take(0, 0), 1);
        }
    }

    @Sentence(of = "Terms I, ROADS", says = "once, the first CLAUSE)")
    static void roadsOnceAndFirst() {
        roadsAre("roads 3;town", 1);
        roadsFault("roads 3;^roads 3", 4);
        roadsFault("roads 3;town;^roads 3;town", 4);
        for (String other : new String[] {"town", "shop 0 1", "way 0 1 1", "sentence 0 0 0", "walker 0"}) {
            roadsFault("^" + other + ";roads 3", 4);
        }
    }

    @Sentence(of = "Terms I, ROADS", says = "town (one more)")
    static void townIsOneMore() {
        for (int n = 0; n <= 8; n++) {
            ProxyWalk p = on("roads 0" + times(";town", n));
            due("towns", p.count(1), n);
            due("the last one", p.shop(n - 1), n == 0 ? NONE : 0);
            due("one more", p.shop(n), NONE);
        }
        roadsFault("roads 0;town ^1", 0);
    }

    @Sentence(of = "Terms I, ROADS", says = "shop NUMBER NUMBER (a TOWN that was told")
    static void shopInATownThatWasTold() {
        due("the last told", on("roads 0;town;town;shop 1 4").shop(1), 4);
        due("home", on("roads 0;town;town;shop 0 4").shop(0), 4);
        roadsFault("roads 0;shop ^0 4", 1);
        roadsFault("roads 0;town;shop ^1 4;town", 1);
        roadsFault("roads 0" + times(";town", 8) + ";shop ^8 4", 1);
        roadsFault("roads 0;town;shop^", 0);
        roadsFault("roads 0;town;shop ^;", 0);
        roadsFault("roads 0;town;shop 0^", 0);
        roadsFault("roads 0;town;shop 0 ^town", 0);
        roadsFault("roads 0;town;shop 0 1 ^1", 0);
    }

    @Sentence(of = "Terms I, ROADS", says = "PRICE 1 to 99 of a shell there")
    static void price1To99() {
        for (int price : new int[] {1, 2, 98, 99}) due("PRICE", on("roads 0;town;shop 0 " + price).shop(0), price);
        roadsFault("roads 0;town;shop 0 ^0", 1);
        roadsFault("roads 0;town;shop 0 ^100", 1);
        ProxyWalk p = on("roads 0;town;shop 0 99;sentence 0 9 1;walker 99");
        p.take(0, 0);
        due("a shell of 99", p.shell(0, 0), 0);
    }

    @Sentence(of = "Terms I, ROADS", says = "of one the last told)")
    static void ofAShopTheLastTold() {
        ProxyWalk p = on("roads 0;town;town;shop 0 4;shop 1 9;shop 0 3");
        due("told twice", p.shop(0), 3);
        due("told once", p.shop(1), 9);
    }

    @Sentence(of = "Terms I, ROADS", says = "way NUMBER NUMBER NUMBER (two TOWNS that were told")
    static void wayBetweenTownsThatWereTold() {
        due("a way", on("roads 0;town;town;way 0 1 5").way(0, 1, 0), 5);
        due("the other way round", on("roads 0;town;town;way 1 0 5").way(0, 1, 0), 5);
        roadsFault("roads 0;way ^0 1 5", 1);
        roadsFault("roads 0;town;way 0 ^1 5;town", 1);
        roadsFault("roads 0;town;way ^1 0 5;town", 1);
        roadsFault("roads 0;town;town;way 0 ^2 5", 1);
        roadsFault("roads 0;town;town;way ^2 0 5", 1);
        roadsFault("roads 0;town;town;way ^2 2 5", 1);
        roadsFault("roads 0;town;town;way^", 0);
        roadsFault("roads 0;town;town;way 0^", 0);
        roadsFault("roads 0;town;town;way 0 1^", 0);
        roadsFault("roads 0;town;town;way 0 1 1 ^1", 0);
    }

    @Sentence(of = "Terms I, ROADS", says = "DAYS 1 to 9")
    static void daysOfAWay1To9() {
        for (int days = 1; days <= 9; days++) {
            ProxyWalk p = on("roads 0;town;town;way 0 1 " + days + ";walker 0", "go town");
            due("DAYS", p.way(0, 1, 0), days);
            due("on the way", p.ahead(0, days - 1, 0), days == 1 ? 0 : NONE);
            due("there", p.ahead(0, days, 0), 1);
        }
        roadsFault("roads 0;town;town;way 0 1 ^0", 1);
        roadsFault("roads 0;town;town;way 0 1 ^10", 1);
    }

    @Sentence(of = "Terms I, ROADS", says = "of the same two, either way round, the last told)")
    static void ofAWayTheLastTold() {
        ProxyWalk p = on("roads 0;town;town;town;way 0 1 2;way 1 2 4;way 1 0 7;way 2 1 9;way 1 2 3");
        due("told longer, the other way round", p.way(0, 1, 0), 7);
        due("there and back", p.way(1, 0, 0), 7);
        due("told three times", p.way(2, 1, 0), 3);
        due("ways", p.count(2), 2);
    }

    @Sentence(of = "Terms I, ROADS", says = "sentence NUMBER NUMBER NUMBER (a TOWN that was told")
    static void sentenceForATownThatWasTold() {
        due("the last told", on("roads 0;town;town;sentence 1 2 3").sentence(0, 0), 1);
        roadsFault("roads 0;sentence ^0 2 3", 1);
        roadsFault("roads 0;town;sentence ^1 2 3;town", 1);
        roadsFault("roads 0;town;sentence^", 0);
        roadsFault("roads 0;town;sentence 0^", 0);
        roadsFault("roads 0;town;sentence 0 1^", 0);
        roadsFault("roads 0;town;sentence 0 1 1 ^1", 0);
    }

    @Sentence(of = "Terms I, ROADS", says = "by which DAY, 0 to 299")
    static void sentenceByDay0To299() {
        for (int day : new int[] {0, 1, 298, 299}) due("DAY", on("roads 0;town;sentence 0 " + day + " 7").sentence(0, 1), day);
        roadsFault("roads 0;town;sentence 0 ^300 7", 1);
        roadsFault("roads 0;town;sentence 0 ^99999 7", 1);
    }

    @Sentence(of = "Terms I, ROADS", says = "FEE 0 to 99)")
    static void fee0To99() {
        for (int fee : new int[] {0, 1, 98, 99}) due("FEE", on("roads 0;town;sentence 0 5 " + fee).sentence(0, 2), fee);
        roadsFault("roads 0;town;sentence 0 5 ^100", 1);
    }

    @Sentence(of = "Terms I, ROADS", says = "walker NUMBER (PURSE 0 to 99)")
    static void purse0To99() {
        for (int purse : new int[] {0, 1, 98, 99}) due("PURSE", on("roads 0;town;walker " + purse).walker(0, 2), purse);
        roadsFault("roads 0;town;walker ^100", 1);
        roadsFault("roads 0;town;walker^", 0);
        roadsFault("roads 0;town;walker 1 ^1", 0);
    }

    @Sentence(of = "Terms I, ROADS", says = "TOWNS 0 to 7, SENTENCES 0 to 5, WALKERS 0 to 2, in the order told;")
    static void allInTheOrderTold() {
        ProxyWalk p = on("roads 0;town;walker 30;sentence 0 6 1" + times(";town", 6) + ";sentence 6 5 2;walker 20;town;sentence 7 4 3;"
            + "shop 7 9;way 7 0 8;sentence 2 3 4;walker 10;sentence 1 2 5;sentence 3 1 6");
        due("towns", p.count(1), 8);
        due("sentences", p.count(3), 6);
        due("walkers", p.count(4), 3);
        int[] towns = {0, 6, 7, 2, 1, 3};
        for (int s = 0; s < 6; s++) {
            due("TOWN of " + s, p.sentence(s, 0), towns[s]);
            due("DAY of " + s, p.sentence(s, 1), 6 - s);
            due("FEE of " + s, p.sentence(s, 2), s + 1);
        }
        for (int w = 0; w < 3; w++) due("PURSE of " + w, p.walker(w, 2), 30 - 10 * w);
        due("town 7", p.shop(7), 9);
        due("way to town 7", p.way(0, 7, 0), 8);
    }

    @Sentence(of = "Terms I, ROADS", says = "TOWN 0 is home.")
    static void townZeroIsHome() {
        ProxyWalk p = on("roads 0;town;town;way 1 0 1;sentence 1 9 5;walker 0", "go 1");
        due("they begin there", p.walker(0, 0), 0);
        due("they take there", p.take(0, 0), 1);
        p.day();
        due("they are not paid elsewhere", p.count(9), 0);
        p.day();
        due("they are paid there", p.count(9), 1);
    }

    @Sentence(of = "Terms I, ROADS", says = "It is DAY 0; all WALKERS are at home, nobody has a SENTENCE.")
    static void asItBegins() {
        ProxyWalk p = on("roads 4;town;town;shop 0 1;way 0 1 1;sentence 1 9 5;sentence 1 0 9;walker 7;walker 8;walker 9", "go 1");
        for (int again = 0; again < 2; again++) {
            due("DAY", p.count(7), 0);
            due("in towns", p.count(10), 7);
            due("sealed", p.count(8), 0);
            due("paid", p.count(9), 0);
            for (int w = 0; w < 3; w++) {
                int[] first = {0, 0, 7 + w, 0, 0};
                for (int what = 0; what < 5; what++) due("walker(" + w + ", " + what + ")", p.walker(w, what), first[what]);
            }
            for (int s = 0; s < 2; s++) for (int what = 3; what < 7; what++) {
                due("sentence(" + s + ", " + what + ")", p.sentence(s, what), what == 3 ? NONE : 0);
            }
            p.take(0, 0);
            p.take(1, 1);
            p.shell(1, 1);
            p.check(1);
            p.day();
            p.check(0);
            roads(p, "roads 4;town;town;shop 0 1;way 0 1 1;sentence 1 9 5;sentence 1 0 9;walker 7;walker 8;walker 9");
        }
    }

    // ---- RULES

    @Sentence(of = "Terms I, RULES", says = "RULES 0 to 5:")
    static void sixRules() {
        ProxyWalk p = on("roads 0;town;town;way 0 1 1;walker 0");
        for (int i = 0; i < 6; i++) due("rule", rule(p, "go 1 if day=" + i), i);
        due("a seventh", rule(p, "go 1"), NONE);
        for (int i = 0; i < 6; i++) {
            p.force(i);
            due("it stays by rule " + i, p.ahead(0, i, 0), 0);
            due("it goes by rule " + i, p.ahead(0, i + 1, 0), 1);
        }
        due("force(6)", p.force(6), -2);
    }

    @Sentence(of = "Terms I, RULES", says = "texts likewise")
    static void rulesOf400Bytes() {
        ruleIs("go" + times(" ", 397) + "1");
        ruleFault("go 1" + times(" ", 395) + "^2", 0);
        ruleFault("go 1 +" + times(" ", 394) + "^", 0);
        ruleFault("go 1 if 1" + times(" ", 390) + "<^", 0);
        ruleFault("^" + times("[", 400), 0);
        ruleIs("go 1+" + times(" ", 392) + "day");
        ruleIs("go 1+" + times(" ", 390) + "99999");
        ruleFault("^", 0);
        ruleFault("^;go 1", 0);
        ruleFault("go 1;^", 0);
        ruleFault("go 1;^;go 1", 0);
        ruleFault("go 1 ^go 1", 0);
    }

    @Sentence(of = "Terms I, RULES", says = "12 CLAUSES at most")
    static void rulesOf12Clauses() {
        ruleIs("go 1" + times(";go 1", 11));
        ruleFault("go 1" + times(";go 1", 11) + ";^go 1", 4);
        goes(times("go 0 if 1=2;", 11) + "go 1", true);
        goes(times("go 1 if 1=2;", 11) + "go 0", false);
        goes(times("go 1 if 1=2;", 11) + "go 1 if 1=1", true);
        goes(times("go 1 if 1=2;", 11) + "go 1 if 1=2", false);
    }

    @Sentence(of = "Terms I, RULES", says = "go SUM [ if TEST ].")
    static void clauseOfARule() {
        ruleIs("go 1");
        ruleIs("go 1 if 1=1");
        ruleFault("^1", 0);
        ruleFault("^if 1=1", 0);
        ruleFault("go^", 0);
        ruleFault("go ^if 1=1", 0);
        ruleFault("go ^not 1", 0);
        ruleFault("go ^[1=1]", 0);
        ruleFault("go 1^=1", 0);
        ruleFault("go 1 if^", 0);
        ruleFault("go 1 if ^;", 0);
        ruleFault("go 1 if 1=1 ^if 1=1", 0);
        ruleFault("go 1 ^and 1=1", 0);
    }

    @Sentence(of = "Terms I, RULES", says = "TEST: PART { or PART }.")
    static void testOfParts() {
        holds("1=2 or 1=1", true);
        holds("1=1 or 1=2", true);
        holds("1=2 or 1=2", false);
        holds("1=2 or 1=2 or 1=1", true);
        holds("1=1 or 1=2 and 1=2", true);
        holds("1=2 and 1=2 or 1=1", true);
        ruleFault("go 1 if ^or 1=1", 0);
        ruleFault("go 1 if 1=1 or^", 0);
        ruleFault("go 1 if 1=1 or ^or 1=1", 0);
        ruleFault("go 1 if 1=1 ^1=1", 0);
    }

    @Sentence(of = "Terms I, RULES", says = "PART: FACT { and FACT }.")
    static void partOfFacts() {
        holds("1=1 and 1=1", true);
        holds("1=1 and 1=2", false);
        holds("1=2 and 1=1", false);
        holds("1=1 and 1=1 and 1=2", false);
        holds("1=2 or 1=1 and 1=1", true);
        holds("1=1 and 1=2 or 1=2 and 1=1", false);
        ruleFault("go 1 if ^and 1=1", 0);
        ruleFault("go 1 if 1=1 and^", 0);
        ruleFault("go 1 if 1=1 and ^or 1=1", 0);
    }

    @Sentence(of = "Terms I, RULES", says = "FACT: not FACT |")
    static void notAFact() {
        holds("not 1=2", true);
        holds("not 1=1", false);
        holds("not not 1=1", true);
        holds("not not not 1=1", false);
        holds("not 1=1 or 1=1", true);
        holds("not 1=2 and 1=2", false);
        holds("not [1=1 and 1=2]", true);
        ruleFault("go 1 if not^", 0);
        ruleFault("go 1 if 1 ^not =1", 0);
        ruleFault("go 1 if not 1+1^", 0);
        ruleFault("go 1 if 1=1 ^not 1=1", 0);
    }

    @Sentence(of = "Terms I, RULES", says = "[ TEST ] (these brackets are signs)")
    static void bracketsOfATest() {
        holds("[1=2]", false);
        holds("[1=1]", true);
        holds("[1=1 or 1=1] and 1=2", false);
        holds("1=2 and [1=1 or 1=1]", false);
        holds("[[1=1] and [1=1 or 1=2]]", true);
        ruleFault("go 1 if [^]", 0);
        ruleFault("go 1 if [1=1^", 0);
        ruleFault("go 1 if [1=1^;go 1", 0);
        ruleFault("go 1 if 1=1^]", 0);
        ruleFault("go 1 if [1^]=1", 0);
        ruleFault("go 1 if [1=1]^=1", 0);
        ruleFault("go 1 if ^(1=1)", 0);
        ruleFault("go 1 if 1=^[1]", 0);
    }

    @Sentence(of = "Terms I, RULES", says = "| SUM SIGN SUM, SIGN one of < <= = >= >.")
    static void signsOfAFact() {
        String[] signs = {"<", "<=", "=", ">=", ">"};
        for (int i = 0; i < 5; i++) {
            holds("4" + signs[i] + "5", i < 2);
            holds("5" + signs[i] + "5", i > 0 && i < 4);
            holds("6" + signs[i] + "5", i > 2);
            holds("0-6" + signs[i] + "5", i < 2);
            holds("2+2*3" + signs[i] + "9-1", i > 0 && i < 4);
            holds("4" + signs[i] + "5 and 5=5", i < 2);
            holds("5=5 and 5" + signs[i] + "5", i > 0 && i < 4);
            holds("6" + signs[i] + "5 or 5=6", i > 2);
            holds("not 4" + signs[i] + "5", i >= 2);
            holds("not 5" + signs[i] + "5", i == 0 || i == 4);
            holds("not 6" + signs[i] + "5", i <= 2);
            ruleFault("go 1 if ^" + signs[i] + "5", 0);
            ruleFault("go 1 if 5" + signs[i] + "^", 0);
            ruleFault("go 1 if 5^", 0);
            ruleFault("go 1 if 5=5^" + signs[i] + "5", 0);
        }
        ruleFault("go 1 if 5< ^=5", 0);
        ruleFault("go 1 if 5> ^=5", 0);
        ruleFault("go 1 if 5=^<5", 0);
        ruleFault("go 1 if 5=^=5", 0);
        ruleFault("go 1 if 5<^>5", 0);
        ruleFault("go 1 if 5<=^=5", 0);
        ruleFault("go 1 if 5^!=5", 0);
    }

    @Sentence(of = "Terms I, RULES", says = "SUM: TERM { (+ or -) TERM }.")
    static void sumOfTerms() {
        holds("5-2-2=1", true);
        holds("5-2+2=5", true);
        holds("1+2*3=7", true);
        holds("2*3+1=7", true);
        holds("9-2*3-1=2", true);
        holds("2-3=0-1", true);
        ruleFault("go ^-1", 0);
        ruleFault("go ^+1", 0);
        ruleFault("go 1+^", 0);
        ruleFault("go 1-^-1", 0);
        ruleFault("go 1+^-1", 0);
    }

    @Sentence(of = "Terms I, RULES", says = "TERM: VALUE { (* or / or %) VALUE }.")
    static void termOfValues() {
        holds("2*3*4=24", true);
        holds("7/2*2=6", true);
        holds("7*2/2=7", true);
        holds("7*3%4=1", true);
        holds("7%4*3=9", true);
        holds("100/5/2=10", true);
        ruleFault("go ^*1", 0);
        ruleFault("go 1*^", 0);
        ruleFault("go 1/^", 0);
        ruleFault("go 1%^", 0);
        ruleFault("go 1*^*1", 0);
        ruleFault("go 2*^(1+1)", 0);
    }

    @Sentence(of = "Terms I, RULES", says = "VALUE: NUMBER (1 to 5 digits, as far as digits go on) | WORD.")
    static void numbersOf1To5Digits() {
        holds("99999=100*1000-1", true);
        holds("00007=7", true);
        holds("0=00000", true);
        ruleFault("go ^100000", 1);
        ruleFault("go ^000001", 1);
        ruleFault("go 1+^123456789", 1);
        ruleFault("go 12 ^3", 0);
        ruleFault("go 1^.5", 0);
        roadsAre("roads 00009;town;shop 00000 00001", 1);
        roadsFault("roads ^000009", 1);
        roadsFault("roads 1;town;shop ^000000 1", 1);
    }

    @Sentence(of = "Terms I, RULES", says = "WORDS (small letters, as far as these go on)")
    static void wordsOfSmallLetters() {
        for (String word : new String[] {"walker", "town", "days", "asked", "due", "home", "purse", "has", "sealed", "day", "shop"}) {
            ruleIs("go " + word);
            ruleIs("go 1+" + word + "+1");
            ruleFault("go ^" + word + "s" + "s", 0);
            ruleFault("go ^" + word.substring(0, word.length() - (word.equals("days") ? 2 : 1)), 0);
            ruleFault("go ^" + word.toUpperCase(), 0);
            ruleFault("go ^" + word + "x+1", 0);
            ruleFault("go ^" + word.substring(0, 2) + " " + word.substring(2), 0);
            ruleFault("go " + word + "^X", 0);
            ruleFault("^" + word + " 1", 0);
        }
        ruleFault("^gotown", 0);
        ruleFault("go 1 ^iftown=1", 0);
        ruleFault("go 1 if 1=1 ^andtown=1", 0);
        ruleFault("go 1 if ^nottown=1", 0);
        ruleIs("go1if1=1and1=1or not1=1");
    }

    @Sentence(of = "Terms I, RULES", says = "of a WALKER in a TOWN and a TOWN there is a WAY to: walker, town (that one), days (of the WAY)")
    static void wordsOfAWay() {
        String roads = "roads 0;town;town;town;town;way 0 1 3;way 0 2 9;way 1 2 2;walker 0;walker 0;walker 0";
        for (int w = 0; w < 3; w++) {
            ProxyWalk p = on(roads, "go 1 if walker=" + w + " and town=2 and days=9");
            p.day();
            for (int v = 0; v < 3; v++) due("walker " + v, p.walker(v, 0), v == w ? 2 : 0);
        }
        due("no way to it", on(roads, "go 1 if town=3").ahead(0, 1, 0), 0);
        due("not to where they are", on(roads, "go 1 if town=0").ahead(0, 1, 0), 0);
        due("days of the way, not the fewest", on(roads, "go 1 if town=2 and days=5").ahead(0, 1, 0), 0);
        ProxyWalk p = on(roads, "go 1 if day=0 and town=1;go 1 if day=3 and days=2");
        due("days of the way from where they are", p.ahead(0, 5, 0), 2);
    }

    @Sentence(of = "Terms I, RULES", says = "asked (their SENTENCES for that TOWN that are not SEALED)")
    static void wordAsked() {
        String roads = "roads 0;town;town;town;shop 0 1;way 0 1 1;way 0 2 1;sentence 1 0 1;sentence 1 9 1;sentence 2 9 1;sentence 1 9 1;walker 9;walker 9";
        for (int asked = 0; asked < 4; asked++) {
            ProxyWalk p = on(roads, "go 1 if town=1 and walker=0 and asked=" + asked);
            due("none are theirs", p.ahead(0, 1, 0), asked == 0 ? 1 : 0);
            p.take(0, 2);
            p.take(1, 3);
            due("for another town, another's", p.ahead(0, 1, 0), asked == 0 ? 1 : 0);
            p.take(0, 1);
            due("one", p.ahead(0, 1, 0), asked == 1 ? 1 : 0);
            p.take(0, 0);
            due("two", p.ahead(0, 1, 0), asked == 2 ? 1 : 0);
            p.shell(0, 1);
            due("one is sealed", p.ahead(0, 1, 0), asked == 1 ? 1 : 0);
        }
    }

    @Sentence(of = "Terms I, RULES", says = "due (the least DAY of these less this DAY; 999 without)")
    static void wordDue() {
        String roads = "roads 0;town;town;town;shop 0 1;way 0 1 1;way 0 2 1;sentence 1 7 1;sentence 1 5 1;sentence 1 299 1;sentence 2 1 1;walker 9";
        int[] dues = {999, 299, 7, 5, 4, -1, 6, 294};
        for (int i = 0; i < dues.length; i++) {
            ProxyWalk p = on(roads, "go 1 if town=1 and due=0" + (dues[i] < 0 ? "-" + -dues[i] : "+" + dues[i]));
            p.take(0, 3);
            due("without", p.ahead(0, 1, 0), i == 0 ? 1 : 0);
            p.take(0, 2);
            due("299", p.ahead(0, 1, 0), i == 1 ? 1 : 0);
            p.take(0, 0);
            due("the least", p.ahead(0, 1, 0), i == 2 ? 1 : 0);
            p.take(0, 1);
            due("the least", p.ahead(0, 1, 0), i == 3 ? 1 : 0);
            p.force(NONE);
            p.day();
            p.force(0);
            due("less this day", p.ahead(0, 1, 0), i == 4 ? 1 : 0);
            p.shell(0, 1);
            due("of those not sealed", p.ahead(0, 1, 0), i == 6 ? 1 : 0);
            p.undo();
            p.force(NONE);
            days(p, 5);
            p.force(0);
            due("below 0", p.ahead(0, 1, 0), i == 5 ? 1 : 0);
        }
    }

    @Sentence(of = "Terms I, RULES", says = "home (DAYS from that TOWN to TOWN 0; 999 without a way)")
    static void wordHome() {
        String roads = "roads 0;town;town;town;town;way 0 1 3;way 0 2 9;way 1 2 2;way 2 3 1;walker 0";
        due("to town 1", on(roads, "go 1 if home=3").ahead(0, 3, 0), 1);
        due("to town 2 by the fewest", on(roads, "go 1 if home=5").ahead(0, 9, 0), 2);
        due("not by the way itself", on(roads, "go 1 if home=9").ahead(0, 9, 0), 0);
        due("home is 0", on(roads, "go 1 if home=3;go 1 if home=0").ahead(0, 6, 0), 0);
        due("home is 0", on(roads, "go 1 if home=3").ahead(0, 6, 0), 1);
        // Whoever began at home has a way back, so that 999 is never seen: no way there is ever without one.
        due("never 999", on(roads + ";town;town;way 4 5 1", "go 1 if home=999").ahead(0, 100, 0), 0);
    }

    @Sentence(of = "Terms I, RULES", says = "purse, has (their SENTENCES), sealed (of these, that are), day, shop (PRICE there; 0).")
    static void otherWords() {
        String roads = "roads 0;town;town;town;shop 0 3;shop 1 8;way 0 1 1;way 0 2 1;sentence 1 9 1;sentence 2 9 1;sentence 1 9 1;walker 9;walker 7";
        String[] tests = {"purse=9 and has=0 and sealed=0 and day=0 and shop=8", "purse=9 and has=2 and sealed=0 and day=0 and shop=8",
            "purse=6 and has=2 and sealed=1 and day=0 and shop=0", "purse=6 and has=2 and sealed=1 and day=0 and shop=8"};
        for (int i = 0; i < tests.length; i++) {
            ProxyWalk p = on(roads, "go 1 if walker=0 and " + tests[i]);
            due("with none", p.ahead(0, 1, 0), i == 0 ? 1 : 0);
            p.take(0, 0);
            p.take(0, 1);
            p.take(1, 2);
            due("with two", p.ahead(0, 1, 0), i == 1 ? 1 : 0);
            p.shell(0, 1);
            due("with one sealed", p.ahead(0, 1, 0), i == 2 ? 2 : i == 3 ? 1 : 0);
            p.force(NONE);
            p.day();
            p.force(0);
            due("on day 1", p.ahead(0, 1, 0), 0);
        }
    }

    @Sentence(of = "Terms I, RULES", says = "/ is towards 0, % its rest, both 0 by 0;")
    static void divided() {
        holds("7/2=3 and 8/2=4 and 1/2=0 and 0/5=0", true);
        holds("7%2=1 and 8%2=0 and 1%2=1 and 0%5=0", true);
        holds("7/0=0 and 0/0=0 and 99999/0=0", true);
        holds("7%0=0 and 0%0=0 and 99999%0=0", true);
        holds("2+7/0*3=2 and 2+7%0*3=2", true);
        holdsWithDueOf7Below("due=0-7", true);
        holdsWithDueOf7Below("due/2=0-3 and due%2=0-1", true);
        holdsWithDueOf7Below("due/7=0-1 and due%7=0", true);
        holdsWithDueOf7Below("due/8=0 and due%8=0-7", true);
        holdsWithDueOf7Below("20/due=0-2 and 20%due=6", true);
        holdsWithDueOf7Below("due/0=0 and due%0=0", true);
    }

    /** Whether a TEST holds for a WALKER whose SENTENCE was due 7 DAYS ago. */
    private static void holdsWithDueOf7Below(String test, boolean want) {
        ProxyWalk p = on("roads 0;town;town;way 0 1 1;sentence 1 0 1;walker 8", "go 1 if day=7 and " + test);
        p.take(0, 0);
        due("holds " + test, p.ahead(0, 8, 0) == 1, want);
    }

    @Sentence(of = "Terms I, RULES", says = "all goes round in 64 bits.")
    static void goesRound() {
        String half = "65536*65536*65536*32768";
        goes("go " + half, false);
        goes("go " + half + "-1", true);
        goes("go 0-" + half, false);
        goes("go 65536*65536*65536*65536", false);
        goes("go 65536*65536*65536*65536+1", true);
        goes("go 99999*99999*99999*90000", false);
        goes("go 65536*65536", true);
        holds("65536*65536=0", false);
        holds(half + "<0", true);
        holds("0-" + half + "=" + half, true);
        holds(half + "-1>0 and " + half + "+" + half + "=0", true);
        ProxyWalk p = on("roads 0;town;town;way 0 1 1;sentence 1 0 1;walker 8",
            "go 1 if day=1 and due=0-1 and " + half + "/due=" + half + " and " + half + "%due=0");
        p.take(0, 0);
        due("the least by -1", p.ahead(0, 2, 0), 1);
    }

    @Sentence(of = "Terms I, RULES", says = "Blanks (32) stand between as one likes.")
    static void blanks() {
        ruleIs("go1");
        ruleIs("   go   1   ");
        ruleIs("go1if1=1and[1>=1]or not[not 1<1];go 2");
        ruleIs(" go 1 + 2 * town if [ 1 >= 1 ] and not [ 1 < 2 ] ; go 2 ");
        roadsAre("roads1;town;town;shop0 1;way0 1 2;sentence1 2 3;walker4", 2);
        roadsAre("  roads  1  ;  town ; town;way  0  1  2  ", 2);
        ruleFault("^g o 1", 0);
        ruleFault("go 1 if 1< ^= 1", 0);
        ruleFault("go 1 ^2", 0);
        for (int other : new int[] {0, 9, 10, 13, 95, 160, 255}) {
            ruleFault("go^" + (char) other + "1", 0);
            roadsFault("roads^" + (char) other + "1", 0);
            roadsFault("^" + (char) other + "roads 1", 0);
            roadsFault("roads 1;town^" + (char) other, 0);
        }
    }

    @Sentence(of = "Terms I, RULES", says = "[ and not lie within one another 10 deep at most;")
    static void tenDeep() {
        ruleIs("go 1 if " + times("[", 10) + "1=1" + times("]", 10));
        ruleIs("go 1 if " + times("not ", 10) + "1=1");
        ruleIs("go 1 if " + times("not[", 5) + "1=1" + times("]", 5));
        ruleIs("go 1 if " + times("[", 10) + "1=1" + times("]", 10) + " and " + times("[", 10) + "1=1" + times("]", 10) + " or " + times("not ", 10) + "1=1");
        ruleIs("go 1 if " + times("not 1=1 and ", 11) + "not[1=1]");
        ruleIs("go 1 if " + times("[", 9) + "[1=1] and [1=1] or not 1=1" + times("]", 9));
        ruleIs("go 1 if " + times("[", 10) + "1=1" + times("]", 10) + ";go 1 if " + times("[", 10) + "1=1" + times("]", 10));
        ruleFault("go 1 if " + times("[", 10) + "^[1=1" + times("]", 11), 2);
        ruleFault("go 1 if " + times("not ", 10) + "^not 1=1", 2);
        holds(times("not ", 10) + "1=1", true);
        holds(times("[", 10) + "1=2" + times("]", 10) + " or 1=1", true);
        holds(times("not[", 5) + "1=1" + times("]", 5), false);
        holds(times("[1=1 and ", 10) + "1=1" + times("]", 10), true);
        holds(times("[1=2 or ", 10) + "1=2" + times("]", 10), false);
        holds(times("[1=2 or 1=1 and ", 9) + "[1+1*1=2]" + times("]", 9), true);
        holds(times("[1=2 or 1=1 and ", 9) + "[1+1*1=3]" + times("]", 9), false);
    }

    @Sentence(of = "Terms I, RULES", says = "at most 60 VALUES (of SUMS) and FACTS made of a SIGN, together.")
    static void sixtyParts() {
        ruleIs("go 1" + times("+1", 59));
        ruleIs("go 1" + times("*1", 56) + " if 1=1");
        ruleIs("go 1" + times("+1", 29) + ";go 1" + times("+1", 29));
        ruleIs("go 1" + times("+1", 2) + " if 1=1" + times(" and 1=1", 18));
        ruleIs("go 1" + times("+1", 56) + " if not not [[1=1]]");
        ruleIs("go 1" + times(";go 1", 10) + ";go 1" + times("+1", 48));
        ruleFault("go 1" + times("+1", 59) + "+^1", 3);
        ruleFault("go 1" + times("+1", 59) + "+^town", 3);
        ruleFault("go 1" + times("+1", 57) + " if 1=^1", 3);
        ruleFault("go 1" + times("+1", 58) + " if 1^=1", 3);
        ruleFault("go 1" + times("+1", 59) + " if ^1=1", 3);
        ruleFault("go 1" + times("+1", 3) + " if 1=1" + times(" and 1=1", 17) + " or 1=^1", 3);
        ruleFault("go 1" + times("+1", 29) + ";go 1" + times("+1", 29) + "+^1", 3);
        goes("go 1" + times("+1", 58) + "-59", false);
        goes("go 1" + times("+1", 58) + "-58", true);
    }

    // ---- FAULTS

    @Sentence(of = "Terms I, FAULTS", says = "FAULTS, the first along the text")
    static void theFirstFault() {
        roadsFault("roads ^100;town;shop 5 0;roads 1", 1);
        roadsFault("roads 1;town;shop ^5 0;roads 1;X", 1);
        roadsFault("roads 1;town;shop 0 ^0;roads 1;X", 1);
        roadsFault("roads 1;town;^roads 500;X", 4);
        roadsFault("roads 1;town;sentence ^1 300 100", 1);
        roadsFault("roads 1;town;sentence 0 ^300 100", 1);
        roadsFault("roads 1;town;town;way ^2 2 0", 1);
        roadsFault("roads 1;town;town;way 1 ^1 0", 1);
        ruleFault("go ^100000 if 1=X", 1);
        ruleFault("go ^x+100000", 0);
        ruleFault("go 1 if " + times("[", 10) + "^[" + times("+1", 70), 2);
        ruleFault("go 1" + times("+1", 59) + "+^1 if " + times("[", 11), 3);
        ruleFault("go 1" + times(";go 1", 11) + ";^go X", 4);
    }

    @Sentence(of = "Terms I, FAULTS", says = "1 + 8 * its place and:")
    static void faultByItsPlace() {
        ProxyWalk p = new ProxyWalk();
        due("kind 0 at place 0", roads(p, "x"), -3);
        due("kind 4 at place 0", roads(p, "town"), -7);
        due("kind 0 at place 1", roads(p, " x"), -11);
        due("kind 1 at place 6", roads(p, "roads 100"), -52);
        due("kind 2 at place 18", rule(p, "go 1 if [[[[[[[[[[[1=1"), -149);
        due("kind 3 at place 123", rule(p, "go 1" + times("+1", 60)), -990);
        due("kind 0 at place 400", rule(p, "go 1" + times(" ", 395) + "+"), -3203);
        due("kind 0 at place 399", roads(p, "roads 1" + times(" ", 392) + "x"), -3195);
    }

    @Sentence(of = "Terms I, FAULTS", says = "0 a byte or WORD that can't stand there")
    static void whatCannotStandThere() {
        for (int b = 0; b < 256; b++) {
            if (b == '^') continue;
            String sign = String.valueOf((char) b);
            boolean digit = b >= '0' && b <= '9';
            boolean small = b >= 'a' && b <= 'z';
            if (b != ' ' && b != ';' && !digit) {
                roadsFault("roads 1^" + sign, 0);
                roadsFault(small ? "roads 1;^town" + sign : "roads 1;town^" + sign, 0);
            }
            if (b != ' ') roadsFault("^" + sign + " 1", 0);
            if (b != ' ' && !digit) roadsFault("roads ^" + sign, 0);
            if (b != ' ') ruleFault("^" + sign, 0);
            if (b != ' ' && !digit) ruleFault("go ^" + sign, 0);
            if (b != ' ' && !digit && "+-*/%;".indexOf(b) < 0) ruleFault("go 1 ^" + sign, 0);
            if (b != ' ' && b != '<' && b != '>' && b != '=' && !digit && "+-*/%".indexOf(b) < 0) ruleFault("go 1 if 1 ^" + sign, 0);
            if (b != ' ' && !digit && "+-*/%;".indexOf(b) < 0) ruleFault("go 1 if 1=1 ^" + sign, 0);
        }
        for (String word : "go if not and or roads way sentence x towns".split(" ")) {
            ruleFault("go ^" + word, 0);
            ruleFault("go 1 if 1=^" + word, 0);
            if (!word.equals("if")) ruleFault("go 1 ^" + word, 0);
            if (!word.equals("go")) ruleFault("^" + word + " 1", 0);
            if (!word.equals("not")) ruleFault("go 1 if ^" + word, 0);
        }
        for (String word : "go road roadss towns twn shops ways sentences walkers day x".split(" ")) {
            roadsFault("^" + word + " 1", 0);
            roadsFault("roads 1;town;^" + word + " 0", 0);
        }
        for (String word : "roads town shop way sentence walker".split(" ")) roadsFault("roads ^" + word, 0);
    }

    @Sentence(of = "Terms I, FAULTS", says = "or the end (behind the last byte);")
    static void theEndCannotStandThere() {
        roadsFault("^", 0);
        roadsFault("   ^", 0);
        for (String text : new String[] {"roads", "roads ", "roads 1;", "roads 1; ", "roads 1;town;shop", "roads 1;town;shop 0",
            "roads 1;town;way 0", "roads 1;town;town;way 0 1", "roads 1;town;sentence", "roads 1;town;sentence 0",
            "roads 1;town;sentence 0 1   ", "roads 1;town;walker"}) {
            roadsFault(text + "^", 0);
        }
        for (String text : new String[] {"", "  ", "go", "go ", "go 1+", "go 1*", "go 1 if", "go 1 if not", "go 1 if [", "go 1 if 1",
            "go 1 if 1=", "go 1 if 1=1 and", "go 1 if 1=1 or ", "go 1 if [1=1", "go 1;", "go 1 if [1=1 "}) {
            ruleFault(text + "^", 0);
        }
    }

    @Sentence(of = "Terms I, FAULTS", says = "1 a NUMBER of more digits")
    static void numbersOfMoreDigits() {
        roadsFault("roads ^000000", 1);
        roadsFault("roads 1;town;walker ^000007", 1);
        roadsFault("roads 1;town;shop ^000000 1", 1);
        roadsFault("roads 1;town;shop 0 ^000001", 1);
        roadsFault("roads 1;town;town;way ^000000 1 1", 1);
        roadsFault("roads 1;town;town;way 0 ^000001 1", 1);
        roadsFault("roads 1;town;town;way 0 1 ^000001", 1);
        roadsFault("roads 1;town;sentence ^000000 1 1", 1);
        roadsFault("roads 1;town;sentence 0 ^000001 1", 1);
        roadsFault("roads 1;town;sentence 0 1 ^000001", 1);
        roadsFault("roads 1;town;sentence 0 ^0000000000000000000000000000000000000001 1", 1);
        roadsAre("roads 00000;town;town;way 00000 00001 00009;sentence 00001 00299 00099;walker 00099", 2);
        ruleFault("go ^000000", 1);
        ruleFault("go 1 if 1=^000001", 1);
        ruleFault("go ^4294967297", 1);
        ruleFault("go ^18446744073709551617", 1);
        ruleIs("go 00000+99999");
    }

    @Sentence(of = "Terms I, FAULTS", says = "or not as told")
    static void numbersNotAsTold() {
        roadsFault("roads ^100", 1);
        roadsFault("roads 1;town;shop ^1 1", 1);
        roadsFault("roads 1;town;shop 0 ^0", 1);
        roadsFault("roads 1;town;shop 0 ^100", 1);
        roadsFault("roads 1;town;town;way ^2 0 1", 1);
        roadsFault("roads 1;town;town;way 0 ^2 1", 1);
        roadsFault("roads 1;town;town;way 0 1 ^0", 1);
        roadsFault("roads 1;town;town;way 0 1 ^10", 1);
        roadsFault("roads 1;town;sentence ^1 1 1", 1);
        roadsFault("roads 1;town;sentence 0 ^300 1", 1);
        roadsFault("roads 1;town;sentence 0 1 ^100", 1);
        roadsFault("roads 1;town;walker ^100", 1);
    }

    @Sentence(of = "Terms I, FAULTS", says = "(of way the second TOWN, if it is the first);")
    static void aWayToTheSameTown() {
        for (int t = 0; t < 8; t++) roadsFault("roads 1" + times(";town", 8) + ";way " + t + " ^" + t + " 1", 1);
        roadsFault("roads 1;town;town;way 1 ^00001 1", 1);
        roadsFault("roads 1;town;town;way 1 ^1", 1);
        roadsFault("roads 1;town;town;way 1 ^1 x", 1);
        roadsFault("roads 1;town;town;way ^2 2 1", 1);
        roadsFault("roads 1;town;town;way ^000000 000000 1", 1);
    }

    @Sentence(of = "Terms I, FAULTS", says = "2 too deep (at the sign that opens, or the word not);")
    static void tooDeep() {
        ruleFault("go 1 if " + times("[", 10) + "^[", 2);
        ruleFault("go 1 if " + times("[", 10) + " ^not 1=1", 2);
        ruleFault("go 1 if " + times("not ", 10) + "^not", 2);
        ruleFault("go 1 if " + times("not ", 10) + " ^[1=1]", 2);
        ruleFault("go 1 if " + times("not[", 5) + "1=1 and ^not 1=1", 2);
        ruleFault("go 1 if " + times("[", 10) + "1=1 or ^[1=1]", 2);
        ruleFault("go 1 if " + times("not[", 5) + "^[", 2);
        ruleFault("go 1 if 1=1 and " + times("[not ", 5) + "^[", 2);
        ruleFault("go 1 if " + times("[", 10) + "^]", 0);
        ruleFault("go 1 if " + times("[", 10) + "^nothing", 0);
    }

    @Sentence(of = "Terms I, FAULTS", says = "3 one VALUE or FACT too many (at its first byte; of a FACT at its SIGN);")
    static void onePartTooMany() {
        ruleFault("go 1" + times("+1", 59) + " + ^12345", 3);
        ruleFault("go 1" + times("+1", 59) + "+^home+1+1", 3);
        ruleFault("go 1" + times("+1", 59) + ";go ^1", 3);
        ruleFault("go 1" + times("+1", 58) + " if home ^>= 1", 3);
        ruleFault("go 1" + times("+1", 58) + " if 1 ^< 1", 3);
        ruleFault("go 1" + times("+1", 57) + " if 1 = ^day", 3);
        ruleFault("go 1" + times("+1", 56) + " if 1=1 and ^1=1", 3);
    }

    @Sentence(of = "Terms I, FAULTS", says = "4 one CLAUSE too many")
    static void oneClauseTooMany() {
        roadsFault("roads 1;town" + times(";shop0 1", 38) + "; ^shop 0 1", 4);
        roadsFault("roads 1;town" + times(";shop0 1", 38) + ";^way", 4);
        roadsFault("roads 1;town" + times(";shop0 1", 38) + ";^roads 1", 4);
        ruleFault("go 1" + times(";go 1", 11) + ";  ^go 1", 4);
        ruleFault("go 1" + times(";go 1", 11) + ";^go", 4);
    }

    @Sentence(of = "Terms I, FAULTS", says = "a second roads")
    static void aSecondRoads() {
        roadsFault("roads 1;^roads 1", 4);
        roadsFault("roads 1;town; ^roads", 4);
        roadsFault("roads 1;town;walker 1;^roads 1000", 4);
    }

    @Sentence(of = "Terms I, FAULTS", says = "another CLAUSE ahead of it")
    static void anotherClauseAheadOfRoads() {
        for (String word : "town shop way sentence walker".split(" ")) {
            roadsFault("^" + word, 4);
            roadsFault("  ^" + word + " 9;roads 1", 4);
        }
    }

    @Sentence(of = "Terms I, FAULTS", says = "a ninth TOWN")
    static void aNinthTown() {
        roadsAre("roads 1" + times(";town", 8), 8);
        roadsFault("roads 1" + times(";town", 8) + ";^town", 4);
        roadsFault("roads 1" + times(";town", 8) + ";walker 1; ^town 1", 4);
    }

    @Sentence(of = "Terms I, FAULTS", says = "a seventh SENTENCE")
    static void aSeventhSentence() {
        due("six", on("roads 1;town" + times(";sentence 0 1 1", 6)).count(3), 6);
        roadsFault("roads 1;town" + times(";sentence 0 1 1", 6) + ";^sentence 0 1 1", 4);
        roadsFault("roads 1;town" + times(";sentence 0 1 1", 6) + ";town; ^sentence 9 999 999", 4);
    }

    @Sentence(of = "Terms I, FAULTS", says = "a fourth WALKER")
    static void aFourthWalker() {
        due("three", on("roads 1;town" + times(";walker 1", 3)).count(4), 3);
        roadsFault("roads 1;town" + times(";walker 1", 3) + ";^walker 1", 4);
        roadsFault("roads 1;town" + times(";walker 1", 3) + ";town; ^walker 100", 4);
    }

    @Sentence(of = "Terms I, FAULTS", says = "a walker ahead of the first town (at its first byte).")
    static void aWalkerAheadOfTheFirstTown() {
        roadsFault("roads 1;^walker 1", 4);
        roadsFault("roads 1; ^walker 100;town", 4);
        roadsAre("roads 1;town;walker 1;town", 2);
    }

    @Sentence(of = "Terms I, FAULTS", says = "Of one place the least.")
    static void ofOnePlaceTheLeast() {
        roadsFault("roads 1;town" + times(";shop0 1", 38) + ";^x", 0);
        roadsFault("roads 1;town" + times(";shop0 1", 38) + ";^7", 0);
        roadsFault("roads 1;town" + times(";shop0 1", 38) + ";^;", 0);
        roadsFault("roads 1;town" + times(";shop0 1", 38) + ";^", 0);
        ruleFault("go 1" + times(";go 1", 11) + ";^x", 0);
        ruleFault("go 1" + times(";go 1", 11) + ";^1", 0);
        ruleFault("go 1" + times(";go 1", 11) + ";^", 0);
        ruleFault("go 1" + times("+1", 59) + "+^x", 0);
        ruleFault("go 1" + times("+1", 59) + "+^", 0);
        ruleFault("go 1" + times("+1", 59) + "+^[", 0);
        ruleFault("go 1" + times("+1", 59) + "+^100000", 1);
        ruleFault("go 1" + times("+1", 58) + " if 1^;", 0);
        ruleFault("go 1" + times("+1", 58) + " if 1^]", 0);
        ruleFault("go 1" + times("+1", 58) + " if 1^", 0);
    }
}
