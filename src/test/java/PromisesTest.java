/** Every promise of the document by hand: ordinary inputs, the edges it names, and wrong inputs. */
public final class PromisesTest extends Bench {
    private static void roadsFault(String text, int place, int kind) {
        due("roads of '" + text + "'", roads(new ProxyWalk(), text), fault(place, kind));
    }

    private static void ruleFault(String text, int place, int kind) {
        due("rule of '" + text + "'", rule(new ProxyWalk(), text), fault(place, kind));
    }

    private static void newObject() {
        part("1 new");
        ProxyWalk p = new ProxyWalk();
        for (int what = 0; what <= 14; what++) due("count(" + what + ")", p.count(what), what == 6 ? NONE : 0);
        due("NONE", ProxyWalk.NONE, -1);
        due("day()", p.day(), NONE);
        due("parted(0)", p.parted(0), -3);
        due("force(0)", p.force(0), -2);
    }

    private static void feed() {
        part("2 feed");
        ProxyWalk p = new ProxyWalk();
        for (int i = 1; i <= 20; i++) due("feed", p.feed(-1, 0, 1, 2, 3), 20 * i);
        due("feed past 400", p.feed(0, 0, 0, 0, 0), NONE);
        due("count(14)", p.count(14), 400);
        due("end", p.end(381), 381);
        due("feed past 400 by one", p.feed(0, 0, 0, 0, 0), NONE);
        due("end", p.end(380), 380);
        due("feed to 400", p.feed(0, 0, 0, 0, 0), 400);
        ProxyWalk q = new ProxyWalk();
        q.feed(0x20676f20, 0x3120203b, 0x676f3220, 0x20203b20, 0x676f2033);
        due("rule in the order of bytes", q.rule(), 0);
        q.feed(0x676f2031, 0xff000000, 0, 0, 0);
        due("a byte above 127", q.rule(), fault(4, 0));
    }

    private static void end() {
        part("3 end");
        ProxyWalk p = new ProxyWalk();
        due("end(1)", p.end(1), NONE);
        due("end(0)", p.end(0), 0);
        p.feed(0x676f2031, 0, 0, 0, 0);
        due("end(21)", p.end(21), NONE);
        due("end(-1)", p.end(-1), NONE);
        due("count(14)", p.count(14), 20);
        due("end(20)", p.end(20), 20);
        due("end(4)", p.end(4), 4);
        due("end(5)", p.end(5), NONE);
        due("rule()", p.rule(), 0);
    }

    private static void roadsRead() {
        part("4 roads");
        ProxyWalk p = new ProxyWalk();
        due("roads", roads(p, RING), 4);
        due("count(14)", p.count(14), 0);
        due("blanks as one likes", roads(p, "  roads5 ;town ; town;way 0 1 2;way1 0 3;shop  00001 7;shop 1 8  "), 2);
        due("BANNED", p.count(0), 5);
        due("a way told twice", p.count(2), 1);
        due("is as told last", p.way(0, 1, 0), 3);
        due("a shop told twice", p.shop(1), 8);
        due("no town", roads(p, "roads 99"), 0);
        due("BANNED", p.count(0), 99);
        due("day without towns", p.day(), 0);
        due("count(7)", p.count(7), 1);
        due("40 clauses", roads(p, "roads 1;town" + times(";shop0 1", 38)), 1);
        roadsFault("roads 1;town" + times(";shop0 1", 39), 12 + 8 * 38 + 1, 4);
        roadsFault("roads 1;town" + times(";shop0 1", 38) + ";x", 12 + 8 * 38 + 1, 0);
        roadsFault("roads 1;town" + times(";shop0 1", 38) + "; ", 12 + 8 * 38 + 2, 0);
        p = on(RING, SEEKER);
        p.seed(77);
        p.take(0, 0);
        p.day();
        p.log(1, 0, 1);
        due("a fault", roads(p, "roads 1;town;town;town;wax"), fault(23, 0));
        due("all stays: towns", p.count(1), 4);
        due("all stays: acts", p.count(12), 2);
        due("all stays: logs", p.count(11), 1);
        due("all stays: day", p.count(7), 1);
        due("all stays: way", p.way(0, 2, 0), 5);
        due("but the tape", p.count(14), 0);
        due("roads anew", roads(p, PAIR), 2);
        due("no logs", p.count(11), 0);
        due("no acts", p.count(12), 0);
        due("undo()", p.undo(), -2);
        due("day", p.count(7), 0);
        due("rule in force stays", p.count(6), 0);
        due("x stays", p.count(13), 77);
        due("nobody's", p.sentence(0, 3), NONE);
        due("home", p.walker(0, 1), 0);
        due("purse", p.walker(0, 2), 5);
        due("towns", p.shop(2), NONE);
        p.take(0, 0);
        p.shell(0, 0);
        p.check(0);
        p.take(0, 0);
        roads(p, PAIR);
        due("not banned", p.walker(0, 3), 0);
        p.take(0, 0);
        p.shell(0, 0);
        roads(p, PAIR);
        due("not sealed", p.count(8), 0);
        p.force(0);
        rule(p, "go 1");
        p.force(1);
        p.take(0, 0);
        due("sealed rightly", p.day(), 1);
        due("not bought", p.check(0), 0);
        p.day();
        roads(p, PAIR);
        due("not paid", p.count(9), 0);
        due("not checked", p.sentence(0, 6), 0);
        roads(p, "roads 1;town;town;walker 3;walker 4");
        due("no ways", p.count(2), 0);
        due("no way", p.way(0, 1, 0), -2);
        due("no shop", p.shop(0), 0);
        due("no sentence", p.count(3), 0);
        roadsFaults();
    }

    private static void roadsFaults() {
        roadsFault("", 0, 0);
        roadsFault("   ", 3, 0);
        roadsFault("Roads 1", 0, 0);
        roadsFault("roadss 1", 0, 0);
        roadsFault("roadsz 1", 0, 0);
        roadsFault("roadsa 1", 0, 0);
        roadsFault(times(";", 400), 0, 0);
        roadsFault("road 1", 0, 0);
        roadsFault("roads", 5, 0);
        roadsFault("roads  ", 7, 0);
        roadsFault("roads town", 6, 0);
        roadsFault("roads 100", 6, 1);
        roadsFault("roads 000001", 6, 1);
        roadsFault("roads 1 1", 8, 0);
        roadsFault("roads 1;", 8, 0);
        roadsFault("roads 1;;town", 8, 0);
        roadsFault("roads 1;7", 8, 0);
        roadsFault("roads 1;1000000", 8, 0);
        roadsFault("roads 1; roads 1", 9, 4);
        roadsFault(" town", 1, 4);
        roadsFault("walker 1", 0, 4);
        roadsFault("roads 1;go 1", 8, 0);
        roadsFault("roads 1;walker 1", 8, 4);
        roadsFault("roads 1;sentence 0 1 1", 17, 1);
        roadsFault("roads 1;way 0 1 1", 12, 1);
        roadsFault("roads 1" + times(";town", 9), 48, 4);
        roadsFault("roads 1;town" + times(";walker 1", 4), 40, 4);
        roadsFault("roads 1;town" + times(";sentence 0 1 1", 7), 13 + 15 * 6, 4);
        roadsFault("roads 1;town;shop 1 1", 18, 1);
        roadsFault("roads 1;town;shop 0 0", 20, 1);
        roadsFault("roads 1;town;shop 0 100", 20, 1);
        roadsFault("roads 1;town;shop 0", 19, 0);
        roadsFault("roads 1;town;way 0 0 1", 19, 1);
        roadsFault("roads 1;town;way 0 1 1", 19, 1);
        roadsFault("roads 1;town;town;way 0 1 0", 26, 1);
        roadsFault("roads 1;town;town;way 0 1 10", 26, 1);
        roadsFault("roads 1;town;town;way 0 1 123456", 26, 1);
        roadsFault("roads 1;town;sentence 0 300 1", 24, 1);
        roadsFault("roads 1;town;sentence 0 299 100", 28, 1);
        roadsFault("roads 1;town;walker 100", 20, 1);
        roadsFault("roads 1;town;walker -1", 20, 0);
        roadsFault("roads 1;town 1", 13, 0);
        roadsFault("roads 1;town;way 1 0 99;xyz", 17, 1);
        due("the edges", roads(new ProxyWalk(), "roads 0;town;town;shop 0 99;shop 1 1;way 0 1 9;sentence 1 299 99;"
            + "sentence 0 0 0;walker 99;walker 0"), 2);
    }

    private static void ruleRead() {
        part("5 rule");
        ProxyWalk p = new ProxyWalk();
        due("first", rule(p, "go 1"), 0);
        due("a fault", rule(p, "go 1 2"), fault(5, 0));
        due("count(14)", p.count(14), 0);
        for (int i = 1; i < 6; i++) due("rule " + i, rule(p, "  go  " + i + " "), i);
        tell(p, "go 7");
        due("a seventh", p.rule(), NONE);
        due("nothing happens", p.count(14), 4);
        tell(p, "no 7");
        due("a seventh with a fault", p.rule(), NONE);
        due("count(5)", p.count(5), 6);
        ruleFaults();
        ruleLimits();
        ruleMeaning();
    }

    private static void ruleFaults() {
        ruleFault("", 0, 0);
        ruleFault("go", 2, 0);
        ruleFault("go ;", 3, 0);
        ruleFault("gone 1", 0, 0);
        ruleFault("go hom", 3, 0);
        ruleFault("go homes", 3, 0);
        ruleFault("go 100000", 3, 1);
        ruleFault("go 1 100000", 5, 0);
        ruleFault("go -1", 3, 0);
        ruleFault("go 1+", 5, 0);
        ruleFault("go 1+*2", 5, 0);
        ruleFault("go [1=1]", 3, 0);
        ruleFault("go not", 3, 0);
        ruleFault("go if", 3, 0);
        ruleFault("go 1 if", 7, 0);
        ruleFault("go 1 iff 1=1", 5, 0);
        ruleFault("go 1 if 1", 9, 0);
        ruleFault("go 1 if 1=", 10, 0);
        ruleFault("go 1 if 1< =2", 11, 0);
        ruleFault("go 1 if 1=<2", 10, 0);
        ruleFault("go 1 if 1==2", 10, 0);
        ruleFault("go 1 if 1<2<3", 11, 0);
        ruleFault("go 1 if 1=1 and", 15, 0);
        ruleFault("go 1 if 1=1 andnot 1=1", 12, 0);
        ruleFault("go 1 if [1=1", 12, 0);
        ruleFault("go 1 if [1=1;go 1", 12, 0);
        ruleFault("go 1 if [1+1]=2", 12, 0);
        ruleFault("go 1 if 1=1]", 11, 0);
        ruleFault("go 1 if []", 9, 0);
        ruleFault("go 1 if 1=1 if 1=1", 12, 0);
        ruleFault("go 1;", 5, 0);
        ruleFault("go 1;1", 5, 0);
        ruleFault("go 1; town", 6, 0);
        ruleFault("roads 1", 0, 0);
        ruleFault("go 1\u00ff", 4, 0);
        ruleFault("go 1" + times("=", 396), 4, 0);
        ruleFault("go 1" + times(" ", 395) + "+", 400, 0);
        due("400 bytes", rule(new ProxyWalk(), "go 1" + times(" ", 396)), 0);
        due("no blanks", rule(new ProxyWalk(), "go1if1=1and not[1>2]or 2>=1;go2"), 0);
    }

    private static void ruleLimits() {
        due("10 deep", rule(new ProxyWalk(), "go 1 if " + times("[", 10) + "1=1" + times("]", 10)), 0);
        ruleFault("go 1 if " + times("[", 11) + "1=1", 18, 2);
        ruleFault("go 1 if " + times("not ", 11) + "1=1", 48, 2);
        ruleFault("go 1 if " + times("not[", 5) + "not 1=1", 28, 2);
        due("deep twice", rule(new ProxyWalk(), "go 1 if " + times("[", 10) + "1=1" + times("]", 10) + " or " + times("not ", 10) + "1=1"), 0);
        due("60 values", rule(new ProxyWalk(), "go 1" + times("+1", 59)), 0);
        ruleFault("go 1" + times("+1", 60), 123, 3);
        ruleFault("go 1" + times("+1", 59) + "+x", 123, 0);
        ruleFault("go 1" + times("+1", 59) + "+100000", 123, 1);
        ruleFault("go 1" + times("+1", 59) + "+", 123, 0);
        due("59 values and a fact's left", rule(new ProxyWalk(), "go 1" + times("+1", 56) + " if 1=1"), 0);
        ruleFault("go 1" + times("+1", 58) + " if 1 = 1", 126, 3);
        ruleFault("go 1" + times("+1", 57) + " if 1=1", 124, 3);
        ruleFault("go 1" + times("+1", 58) + " if 1;", 125, 0);
        ruleFault("go 1" + times("+1", 29) + ";go 1" + times("+1", 30), 62 + 4 + 60, 3);
        due("12 clauses", rule(new ProxyWalk(), "go 1" + times(";go 1", 11)), 0);
        ruleFault("go 1" + times(";go 1", 12), 60, 4);
        ruleFault("go 1" + times(";go 1", 11) + ";g", 60, 0);
        ruleFault("go 1" + times(";go 1", 11) + ";", 60, 0);
    }

    private static void ruleMeaning() {
        goes("go 1", true);
        goes("go 0", false);
        goes("go 1-2", false);
        goes("go 5-2-2", true);
        goes("go 5-2-3", false);
        goes("go 1-1*2+2", true);
        goes("go 2*3-6", false);
        goes("go 7/2*2-6", false);
        goes("go 7%4-2", true);
        goes("go 7%4-3", false);
        goes("go 5/0+5%0", false);
        goes("go 1 if 5/0=0 and 5%0=0", true);
        goes("go 1 if 1-8/3*1=0-1", true);
        goes("go 0;go 1", false);
        goes("go 1 if 1=2;go 0;go 1", false);
        goes("go 0 if 1=2;go 1", true);
        goes("go 1 if 1=2", false);
        goes("go 1 if 1=1 or 1=1 and 1=2", true);
        goes("go 1 if [1=1 or 1=1] and 1=2", false);
        goes("go 1 if not 1=2 and 1=1", true);
        goes("go 1 if not [1=2 and 1=1]", true);
        goes("go 1 if not 1=1 or 1=1", true);
        goes("go 1 if not [1=1 or 1=1]", false);
        goes("go 1 if not not 1=1", true);
        goes("go 1 if 1<1", false);
        goes("go 1 if 1<=1 and 1>=1", true);
        goes("go 1 if 1>1", false);
        goes("go 1 if 2>1 and 1<2", true);
        goes("go 1 if 2<=1 or 1>=2", false);
        goes("go 1 if walker=0 and town=1 and days=2 and asked=2 and due=5 and home=2", true);
        goes("go 1 if purse=8 and has=2 and sealed=0 and day=0 and shop=7", true);
        goes("go 99999*99999*99999*90000", false);
        goes("go 0-99999*99999*99999*90000", true);
        ProxyWalk p = on("roads 0;town;town;town;way 0 1 1;way 0 2 1;sentence 2 0 1;walker 1", "go 1 if due=0-2;go 9 if due=999 and town=0");
        p.take(0, 0);
        due("due below 0", p.ahead(0, 2, 0), 0);
        due("due below 0", p.ahead(0, 3, 0), 2);
        due("home again", p.ahead(0, 4, 0), 0);
    }

    private static void force() {
        part("6 force");
        ProxyWalk p = on(PAIR);
        due("none such", p.force(0), -2);
        rule(p, "go 1");
        rule(p, "go town");
        due("force(0)", p.force(0), NONE);
        due("force(1)", p.force(1), 0);
        due("force(2)", p.force(2), -2);
        due("force(-2)", p.force(-2), -2);
        due("count(6)", p.count(6), 1);
        due("force(-1)", p.force(NONE), 1);
        due("count(6)", p.count(6), NONE);
        due("stays", p.ahead(0, 1, 0), 0);
        p.force(1);
        due("goes", p.ahead(0, 1, 0), 1);
        due("stays there", p.ahead(0, 2, 0), 1);
    }

    private static void sentence() {
        part("7 sentence");
        ProxyWalk p = on(PAIR, "go 1");
        int[] first = {1, 50, 10, NONE, 0, 0, 0};
        for (int i = 0; i < 7; i++) due("sentence(0, " + i + ")", p.sentence(0, i), first[i]);
        due("what 7", p.sentence(0, 7), -2);
        due("what -1", p.sentence(0, -1), -2);
        due("sentence 1", p.sentence(1, 0), -2);
        due("sentence -1", p.sentence(-1, 0), -2);
        p.take(0, 0);
        due("whose", p.sentence(0, 3), 0);
        p.day();
        due("sealed", p.sentence(0, 4), 1);
        due("not paid", p.sentence(0, 5), 0);
        p.day();
        due("paid", p.sentence(0, 5), 1);
        due("still sealed", p.sentence(0, 4), 1);
        due("nobody's", p.sentence(0, 3), NONE);
        p.check(0);
        due("checked", p.sentence(0, 6), 1);
    }

    private static void walker() {
        part("8 walker");
        ProxyWalk p = on(RING, SEEKER);
        p.take(0, 0);
        p.take(0, 1);
        int[] first = {0, 0, 6, 0, 3};
        for (int i = 0; i < 5; i++) due("walker(0, " + i + ")", p.walker(0, i), first[i]);
        due("what 5", p.walker(0, 5), NONE);
        due("what -1", p.walker(0, -1), NONE);
        due("walker 2", p.walker(2, 0), NONE);
        due("walker -1", p.walker(-1, 0), NONE);
        p.day();
        due("goes to", p.walker(0, 0), 3);
        due("days to go", p.walker(0, 1), 3);
    }

    private static void shop() {
        part("9 shop");
        ProxyWalk p = on(RING);
        due("shop(1)", p.shop(1), 3);
        due("shop(0)", p.shop(0), 0);
        due("shop(4)", p.shop(4), NONE);
        due("shop(-1)", p.shop(-1), NONE);
        due("without roads", new ProxyWalk().shop(0), NONE);
    }

    private static void day() {
        part("10 day");
        due("without roads", new ProxyWalk().day(), NONE);
        ProxyWalk p = on("roads 0;town;town;way 0 1 1;sentence 1 1 90;sentence 1 0 5;sentence 0 2 7;sentence 1 0 3;walker 0", "go 1");
        for (int s = 0; s < 3; s++) p.take(0, s);
        due("both of town 1", p.day(), 2);
        due("count(8)", p.count(8), 3);
        due("not yet paid", p.walker(0, 2), 0);
        due("home's", p.day(), 1);
        due("paid", p.walker(0, 2), 102);
        due("paid", p.count(9), 7);
        due("nothing left", p.walker(0, 4), 0);
        p.take(0, 3);
        due("too late", p.day(), 0);
        due("too late", p.sentence(3, 4), 0);
        p = on("roads 0;town;town;town;way 0 2 1;way 0 1 1;walker 0", "go 7-days");
        p.day();
        due("of several the least", p.walker(0, 0), 1);
        p = on("roads 0;town;town;town;way 0 2 1;way 0 1 1;walker 0;walker 0", "go town if walker=1;go 3-town");
        p.day();
        due("walker 0", p.walker(0, 0), 1);
        due("walker 1", p.walker(1, 0), 2);
        p = on("roads 0;town;town;town;way 0 1 2;way 0 2 5;walker 0", "go days if days>2;go 4*days");
        p.day();
        due("days are from where they were", p.walker(0, 0), 1);
        p = on("roads 0;town;walker 1");
        for (int i = 0; i < 999; i++) if (p.day() != 0) due("day " + i, NONE, 0);
        due("999", p.count(7), 999);
        due("at 999", p.day(), NONE);
        due("acts", p.count(12), 20);
        due("stays 999", p.count(7), 999);
        due("beyond 999", p.ahead(0, 100, 1), 1);
        fullPurse();
    }

    /** Walker 1 is paid for shells that walker 0 bought, who is too poor to give the fees back. */
    private static void fullPurse() {
        ProxyWalk p = on("roads 0;town;shop 0 1" + times(";sentence 0 0 99", 5) + ";sentence 0 0 5;walker 0;walker 99");
        p.day();
        int purse = 99;
        for (int i = 0; i < 21; i++) {
            p.take(1, 5);
            p.shell(1, 5);
            p.swap(0, 1);
            p.day();
            p.check(5);
            for (int s = 0; s < 5; s++) {
                p.take(0, s);
                p.shell(0, s);
            }
            p.swap(0, 1);
            p.day();
            purse = Math.min(9999, purse - 6 + 495);
            due("purse", p.walker(1, 2), purse);
            for (int s = 0; s < 5; s++) due("check", p.check(s), 1);
        }
        due("full", purse, 9999);
        due("poor", p.walker(0, 2), 0);
    }

    private static void take() {
        part("11 take");
        ProxyWalk p = on(LINE, "go town");
        due("take", p.take(0, 0), 1);
        due("take another", p.take(0, 1), 2);
        due("somebody's", p.take(1, 0), NONE);
        due("their own", p.take(0, 0), NONE);
        due("no walker", p.take(3, 0), NONE);
        due("no walker", p.take(-1, 0), NONE);
        due("no sentence", p.take(0, 2), NONE);
        due("no sentence", p.take(0, -1), NONE);
        due("acts", p.count(12), 2);
        p.giveBack(0, 1);
        p.day();
        due("in town 1", p.take(0, 1), NONE);
        p = on(PAIR, "go 1");
        p.take(0, 0);
        p.day();
        p.day();
        due("paid", p.take(0, 0), NONE);
        p = on("roads 2;town;town;way 0 1 3;sentence 0 9 1;sentence 1 9 1;walker 1;walker 1", "go 1");
        p.day();
        due("on a way", p.take(0, 0), NONE);
    }

    private static void giveBack() {
        part("12 giveBack");
        ProxyWalk p = on(PAIR, "go 1");
        due("not theirs", p.giveBack(0, 0), NONE);
        p.take(0, 0);
        due("no walker", p.giveBack(1, 0), NONE);
        due("no sentence", p.giveBack(0, 1), NONE);
        due("giveBack", p.giveBack(0, 0), 0);
        due("nobody's", p.sentence(0, 3), NONE);
        p.take(0, 0);
        p.shell(0, 0);
        due("sealed", p.giveBack(0, 0), NONE);
        p = on("roads 0;town;town;way 0 1 1;sentence 1 0 1;sentence 0 9 1;walker 1;walker 1", "go town if day>0");
        p.take(0, 0);
        p.take(1, 1);
        due("another's", p.giveBack(0, 1), NONE);
        p.day();
        p.day();
        due("in a town that isn't home", p.giveBack(0, 0), NONE);
        due("acts", p.count(12), 4);
    }

    private static void swap() {
        part("13 swap");
        ProxyWalk p = on(LINE, "go town if walker<2");
        p.take(0, 0);
        p.take(1, 1);
        due("swap", p.swap(0, 1), true);
        due("walker 0", p.walker(0, 4), 2);
        due("walker 1", p.walker(1, 4), 1);
        due("with themselves", p.swap(1, 1), false);
        due("no walker", p.swap(0, 3), false);
        due("no walker", p.swap(-1, 0), false);
        due("acts", p.count(12), 3);
        due("sealed", p.day(), 1);
        due("swap in town 1", p.swap(0, 1), true);
        due("a sealed one", p.walker(1, 4), 2);
        due("it stays sealed", p.sentence(1, 4), 1);
        due("in two towns", p.swap(0, 2), false);
        p = on("roads 0;town;town;way 0 1 2;walker 1;walker 1", "go 1");
        p.day();
        due("on a way", p.swap(0, 1), false);
    }

    private static void shell() {
        part("14 shell");
        ProxyWalk p = on(PAIR, "go 1");
        due("not theirs", p.shell(0, 0), NONE);
        p.take(0, 0);
        due("no walker", p.shell(1, 0), NONE);
        due("no sentence", p.shell(0, 1), NONE);
        due("shell", p.shell(0, 0), 3);
        due("sealed", p.sentence(0, 4), 1);
        due("once", p.shell(0, 0), NONE);
        p = on("roads 0;town;town;shop 1 5;way 0 1 2;sentence 0 0 1;walker 5;walker 4", "go 1");
        p.take(0, 0);
        due("no shop", p.shell(0, 0), NONE);
        p.day();
        due("on a way", p.shell(0, 0), NONE);
        p.day();
        due("all they have", p.shell(0, 0), 0);
        p.undo();
        due("undone", p.walker(0, 2), 5);
        p.swap(0, 1);
        due("too dear", p.shell(1, 0), NONE);
        due("acts", p.count(12), 4);
    }

    private static void check() {
        part("15 check");
        ProxyWalk p = on(PAIR, "go 1");
        p.take(0, 0);
        due("not sealed", p.check(0), NONE);
        due("no sentence", p.check(1), NONE);
        due("no sentence", p.check(-1), NONE);
        p.shell(0, 0);
        due("falsely, not paid", p.check(0), 1);
        due("the purse stays", p.walker(0, 2), 3);
        due("banned", p.walker(0, 3), 4);
        due("nobody's", p.sentence(0, 3), NONE);
        due("not sealed", p.sentence(0, 4), 0);
        due("not checked", p.sentence(0, 6), 0);
        due("again", p.check(0), NONE);
        days(p, 4);
        due("day 4", p.count(7), 4);
        due("free again", p.take(0, 0), 1);
        due("sealed rightly", p.day(), 1);
        due("not falsely any more", p.check(0), 0);
        p = on(PAIR);
        p.take(0, 0);
        p.shell(0, 0);
        days(p, 1);
        due("paid", p.walker(0, 2), 13);
        due("falsely, paid", p.check(0), 1);
        due("the fee less", p.walker(0, 2), 3);
        due("banned", p.walker(0, 3), 5);
        due("not paid", p.count(9), 0);
        days(p, 3);
        due("day 4: banned", p.take(0, 0), NONE);
        days(p, 1);
        due("day 5: free", p.take(0, 0), 1);
        p = on(PAIR, "go 1");
        p.take(0, 0);
        p.day();
        due("rightly", p.check(0), 0);
        due("checked", p.sentence(0, 6), 1);
        due("twice", p.check(0), NONE);
        p.day();
        due("paid all the same", p.walker(0, 2), 15);
        checkOfSwapped();
    }

    private static void checkOfSwapped() {
        ProxyWalk p = on("roads 7;town;shop 0 2;sentence 0 0 50;walker 9;walker 1");
        p.day();
        p.take(0, 0);
        due("too late for a seal, not for a shell", p.shell(0, 0), 7);
        p.swap(0, 1);
        p.day();
        due("the other one is paid", p.walker(1, 2), 51);
        due("falsely", p.check(0), 1);
        due("who bought it pays, 0 at least", p.walker(0, 2), 0);
        due("and is banned", p.walker(0, 3), 9);
        due("not who was paid", p.walker(1, 2), 51);
        due("not who was paid", p.walker(1, 3), 0);
        due("the other one may take it", p.take(1, 0), 1);
        p = on("roads 0;town;shop 0 2;sentence 0 0 50;walker 9");
        p.take(0, 0);
        p.shell(0, 0);
        p.check(0);
        due("banned for no days", p.take(0, 0), 1);
    }

    private static void undo() {
        part("16 undo");
        ProxyWalk p = on(PAIR, "go 1");
        due("none", p.undo(), -2);
        p.take(0, 0);
        p.shell(0, 0);
        p.check(0);
        p.seed(9);
        p.log(0, 0, 0);
        due("check undone", p.undo(), 2);
        due("sealed", p.sentence(0, 4), 1);
        due("free", p.walker(0, 3), 0);
        due("falsely still", p.check(0), 1);
        p.undo();
        due("shell undone", p.undo(), 1);
        due("purse", p.walker(0, 2), 5);
        due("take undone", p.undo(), 0);
        due("nobody's", p.sentence(0, 3), NONE);
        due("none more", p.undo(), -2);
        due("x stays", p.count(13), 9);
        due("logs stay", p.count(11), 1);
        for (int i = 0; i < 25; i++) p.day();
        due("20 at most", p.count(12), 20);
        for (int i = 19; i >= 0; i--) due("undo", p.undo(), i);
        due("day", p.count(7), 5);
        due("town", p.walker(0, 0), 1);
        due("none more", p.undo(), -2);
        p = on(LINE, "go town");
        p.take(0, 0);
        p.giveBack(0, 0);
        due("giveBack undone", p.undo(), 1);
        due("theirs", p.walker(0, 4), 1);
        p.swap(0, 2);
        p.force(NONE);
        due("swap undone", p.undo(), 1);
        due("theirs", p.walker(0, 4), 1);
        due("the rule stays", p.count(6), NONE);
    }

    private static void ahead() {
        part("17 ahead");
        ProxyWalk p = on(RING, SEEKER);
        p.take(0, 0);
        p.take(0, 1);
        due("4", p.ahead(0, 4, 0), 3);
        due("3", p.ahead(0, 3, 0), NONE);
        due("0", p.ahead(0, 0, 0), 0);
        due("10", p.ahead(0, 10, 1), 33);
        due("100", p.ahead(0, 100, 1), 33);
        due("paid", p.ahead(0, 10, 2), 2);
        due("paid, of no walker", p.ahead(-5, 10, 2), 2);
        due("paid not yet", p.ahead(7, 9, 2), 0);
        due("101", p.ahead(0, 101, 0), -2);
        due("-1", p.ahead(0, -1, 2), -2);
        due("what 3", p.ahead(0, 1, 3), -2);
        due("what -1", p.ahead(0, 1, -1), -2);
        due("walker 2", p.ahead(2, 1, 0), -2);
        due("walker -1", p.ahead(-1, 1, 1), -2);
        due("nothing changes", p.count(7), 0);
        due("nothing changes", p.count(12), 2);
        due("without roads", new ProxyWalk().ahead(0, 0, 2), -2);
    }

    private static void way() {
        part("18 way");
        ProxyWalk p = on(RING);
        due("0 to 2", p.way(0, 2, 0), 5);
        due("of several the least", p.way(0, 2, 1), 1);
        due("2 to 0", p.way(2, 0, 1), 1);
        due("1 to 3", p.way(1, 3, 1), 2);
        due("there", p.way(3, 3, 0), 0);
        due("there", p.way(3, 3, 1), NONE);
        due("no town", p.way(4, 0, 0), -3);
        due("no town", p.way(0, -1, 0), -3);
        due("what 2", p.way(0, 1, 2), -3);
        due("what -1", p.way(0, 1, -1), -3);
        p = on("roads 1;town;town;town;way 0 1 9");
        due("none", p.way(0, 2, 0), -2);
        due("none", p.way(2, 1, 1), -2);
    }

    private static void meet() {
        part("19 meet");
        ProxyWalk p = on("roads 0;town;town;town;way 0 1 3;way 0 2 2;walker 0;walker 0;walker 0", "go town+1 if walker=0;go 3-town if walker=1");
        due("now", p.meet(0, 1), 0);
        days(p, 1);
        due("walker 0 goes 0 2 0, walker 1 goes 0 1 0", p.meet(0, 1), 12);
        due("as one likes", p.meet(1, 0), 12);
        due("home", p.meet(0, 2), 4);
        due("with themselves", p.meet(1, 1), NONE);
        due("no walker", p.meet(0, 3), NONE);
        due("no walker", p.meet(-1, 0), NONE);
        p = on("roads 0;town;town;way 0 1 1;walker 0;walker 0", "go 1 if walker=0 and [day=0 or day=100]");
        days(p, 1);
        due("day 101 is beyond", p.meet(0, 1), -2);
        p = on("roads 0;town;town;way 0 1 1;walker 0;walker 0", "go 1 if walker=0 and [day=0 or day=99]");
        days(p, 1);
        due("day 100 is the hundredth", p.meet(0, 1), 100);
        due("nothing changes", p.count(7), 1);
        p.undo();
        p.force(NONE);
        due("together", p.meet(0, 1), 0);
    }

    private static void round() {
        part("20 round");
        ProxyWalk p = on(RING, SEEKER);
        due("fees", p.round(0, 0), 27);
        due("set", p.round(0, 1), 3);
        due("days", p.round(0, 2), 10);
        due("what 3", p.round(0, 3), -3);
        due("what -1", p.round(0, -1), -3);
        due("no walker", p.round(2, 0), -3);
        p.take(1, 0);
        due("another's", p.round(0, 0), 7);
        due("another's", p.round(0, 1), 2);
        due("there and back", p.round(0, 2), 8);
        p.day();
        due("on a way", p.round(1, 0), -3);
        p = on("roads 0;town;town;way 0 1 2;sentence 1 1 0;sentence 0 0 5;sentence 1 0 9;walker 0");
        due("fee 0 is left", p.round(0, 1), 2);
        due("at home, this day", p.round(0, 2), 0);
        p.day();
        due("too late for home", p.round(0, 0), 0);
        due("too late", p.round(0, 1), 0);
        p = on("roads 0;town;town;town;town;way 0 1 2;way 0 2 1;way 0 3 1;sentence 1 9 4;sentence 2 9 4;sentence 3 2 4;sentence 2 1 8;walker 0");
        due("all", p.round(0, 0), 20);
        due("all", p.round(0, 1), 15);
        due("days", p.round(0, 2), 8);
        p = on("roads 0;town;town;town;way 0 1 3;way 0 2 2;sentence 1 2 5;sentence 2 1 5;walker 0");
        due("home soonest", p.round(0, 1), 2);
        p = on("roads 0;town;town;town;way 0 1 2;way 0 2 2;sentence 1 1 5;sentence 2 1 5;walker 0");
        due("the least as bits", p.round(0, 1), 1);
        p = on("roads 0;town;town;town;way 0 1 2;way 1 2 3;sentence 1 9 5;sentence 2 9 5;walker 0", "go town");
        p.take(0, 0);
        days(p, 2);
        due("from town 1, the other one is sealed", p.round(0, 0), 5);
        due("days from there", p.round(0, 2), 8);
        p = on("roads 0;town;town;sentence 1 9 5;walker 0");
        due("no way there", p.round(0, 0), 0);
        due("no way there", p.round(0, 2), 0);
    }

    private static void parted() {
        part("21 parted");
        ProxyWalk p = on(RING, SEEKER);
        int[] first = {27, 0, 0, NONE, -2, -2, -2, -3};
        for (int i = 0; i < 8; i++) due("parted(" + i + ")", p.parted(i), first[i]);
        due("parted(-1)", p.parted(-1), -3);
        due("without roads", new ProxyWalk().parted(1), -3);
        p.take(1, 0);
        due("with their own", p.parted(0), 27);
        due("walker 1's own", p.parted(1), 1);
        due("nobody ahead of walker 0", p.parted(2), 0);
        p.day();
        due("walker 1 is on a way", p.parted(1), NONE);
        due("too late for town 3", p.parted(2), NONE);
        p = on("roads 0;town;town;town;way 0 1 2;way 0 2 2;sentence 1 1 5;sentence 2 1 6;sentence 1 1 0;walker 0;walker 0");
        due("both", p.parted(0), 11);
        due("walker 0", p.parted(1), 0);
        due("walker 1", p.parted(2), 1);
        due("for no fee nobody", p.parted(3), NONE);
        p = on("roads 0;town;town;sentence 1 1 5");
        due("no walkers", p.parted(0), 0);
        due("no walkers", p.parted(1), NONE);
    }

    private static void seals() {
        part("22 seals");
        ProxyWalk p = on(RING);
        due("2", p.seals(2, 0), 1);
        due("2", p.seals(2, 1), 4);
        due("1", p.seals(1, 0), -2);
        due("1", p.seals(1, 1), -2);
        due("3", p.seals(3, 1), 8);
        due("home", p.seals(0, 0), NONE);
        due("no town", p.seals(4, 0), NONE);
        due("no town", p.seals(-1, 0), NONE);
        due("what 2", p.seals(1, 2), NONE);
        due("what -1", p.seals(1, -1), NONE);
        p = on(LINE);
        due("the least as bits", p.seals(3, 1), 2);
        due("one", p.seals(3, 0), 1);
        p = on("roads 0;town;town;town;town;town;way 0 1 1;way 0 2 1;way 1 3 1;way 2 3 1;way 3 4 1;shop 3 1;shop 4 1");
        due("two ways, a shop at the end", p.seals(4, 0), 2);
        due("two ways", p.seals(4, 1), 6);
        due("through the shop", p.seals(3, 1), 6);
        p = on("roads 0;town;town;town;way 1 2 1;shop 2 1");
        due("no way", p.seals(2, 0), 0);
        due("no way", p.seals(2, 1), 0);
        due("without roads", new ProxyWalk().seals(1, 0), NONE);
    }

    private static void saves() {
        part("23 saves");
        ProxyWalk p = on(RING);
        due("0", p.saves(0), 6);
        due("1", p.saves(1), 4);
        due("2", p.saves(2), 0);
        due("3", p.saves(3), -1000);
        due("-1", p.saves(-1), -1000);
        due("no shop", on(LINE).saves(0), -1000);
        due("shop at home", on(PAIR).saves(0), 2);
        p = on("roads 0;town;town;town;town;way 0 1 2;way 1 2 3;shop 2 1;shop 3 1;sentence 1 0 0;sentence 3 0 0;sentence 0 0 0");
        due("a shop farther away", p.saves(0), -6);
        due("no way", p.saves(1), -1000);
        due("home", p.saves(2), -10);
        due("a shop that can't be come to", on("roads 0;town;town;shop 1 1;sentence 0 0 0").saves(0), -1000);
    }

    private static void owed() {
        part("24 owed");
        ProxyWalk p = on(RING, SEEKER);
        due("not theirs", p.owed(0, 0), NONE);
        p.take(0, 0);
        p.take(0, 1);
        due("at home", p.owed(0, 0), 0);
        due("no walker", p.owed(2, 0), NONE);
        due("no sentence", p.owed(0, 3), NONE);
        due("another's", p.owed(1, 0), NONE);
        p.day();
        due("where they go to", p.owed(0, 1), 7);
        due("downwards", p.owed(0, 0), 16);
        days(p, 4);
        due("sealed", p.owed(0, 0), 20);
        p = on("roads 0;town;town;town;way 0 1 3;way 0 2 4;sentence 1 99 50;sentence 0 0 9;sentence 1 0 10;walker 0", "go town");
        p.day();
        p.undo();
        p.day();
        p.undo();
        for (int s = 0; s < 3; s++) p.take(0, s);
        p.day();
        due("away from it: 0 at least", p.owed(0, 0), 0);
        due("home", p.owed(0, 1), 0);
        p = on("roads 0;town;town;town;way 0 1 1;way 1 2 2;sentence 2 9 10;walker 0", "go town");
        p.take(0, 0);
        p.day();
        due("10 * 1 / 3", p.owed(0, 0), 3);
        p = on("roads 0;town;town;sentence 1 9 10;walker 0");
        p.take(0, 0);
        due("no way", p.owed(0, 0), 0);
    }

    private static void choose() {
        part("25 choose");
        ProxyWalk p = on(LINE, "go 9-home if has=sealed and has>0;go asked*50+town if has>0");
        due("sentence", p.choose(0, 6, 0), 0);
        due("purse", p.choose(0, 6, 1), 40);
        due("5 days", p.choose(0, 5, 0), 1);
        due("5 days", p.choose(0, 5, 1), 18);
        due("1 day", p.choose(0, 1, 0), NONE);
        due("1 day", p.choose(0, 1, 1), 10);
        due("0 days", p.choose(0, 0, 0), -2);
        due("100 days", p.choose(0, 100, 1), 40);
        due("101 days", p.choose(0, 101, 0), -2);
        due("what 2", p.choose(0, 1, 2), -2);
        due("what -1", p.choose(0, 1, -1), -2);
        due("no walker", p.choose(3, 1, 0), -2);
        p.take(1, 0);
        due("another's", p.choose(0, 6, 0), 1);
        p.take(1, 1);
        due("none left", p.choose(0, 6, 0), NONE);
        due("none left", p.choose(0, 6, 1), 10);
        due("nothing changes", p.count(12), 2);
        p.day();
        due("in town 1", p.choose(1, 6, 0), -2);
        p = on("roads 9;town;shop 0 1;sentence 0 9 5;sentence 0 9 5;walker 3");
        due("of several the least", p.choose(0, 1, 0), 0);
        p.take(0, 0);
        p.shell(0, 0);
        p.check(0);
        due("banned", p.choose(0, 1, 0), -2);
    }

    private static void log() {
        part("26 log");
        ProxyWalk p = on(RING);
        due("first", p.log(0, 0, 0), 1);
        due("on a way", p.log(60, 1, NONE), 2);
        due("61", p.log(61, 0, 0), -2);
        due("-2", p.log(-2, 0, 0), -2);
        due("no walker", p.log(0, 2, 0), -2);
        due("no walker", p.log(0, -1, 0), -2);
        due("no town", p.log(0, 0, 4), -2);
        due("no town", p.log(0, 0, -2), -2);
        due("count(11)", p.count(11), 2);
        for (int i = 3; i <= 10; i++) due("log", p.log(1, 0, 0), i);
        due("an eleventh", p.log(1, 0, 0), -2);
        due("none then", p.log(NONE, 99, 99), 0);
        due("count(11)", p.count(11), 0);
        due("without roads", new ProxyWalk().log(0, 0, NONE), -2);
        due("without roads", new ProxyWalk().log(NONE, 0, 0), 0);
    }

    private static void ruled() {
        part("27 ruled");
        ProxyWalk p = on(LINE, "go town", "go 5-town", "go asked", "go 1 if purse=10");
        due("all", p.ruled(0), 5);
        due("none is first", p.ruled(1), NONE);
        p.log(0, 0, 1);
        due("behind day 0 in town 1: not none, not by what is asked", p.ruled(0), 3);
        due("first", p.ruled(1), 0);
        p.log(1, 0, 0);
        due("back home", p.ruled(0), 2);
        due("first", p.ruled(1), 1);
        p.log(0, 1, 0);
        due("walker 1 stays: purse 20", p.ruled(0), 1);
        due("first", p.ruled(1), 3);
        p.log(3, 0, 3);
        due("none", p.ruled(0), 0);
        due("none", p.ruled(1), -2);
        due("what 2", p.ruled(2), -3);
        due("what -1", p.ruled(-1), -3);
        due("without roads", new ProxyWalk().ruled(0), -3);
        p = on(LINE, "go asked");
        p.take(2, 1);
        days(p, 3);
        p.log(0, 1, 1);
        due("as the text told it, with sentence 1 for walker 1", p.ruled(1), 0);
        p.log(60, 2, 0);
        due("walker 2 has none", p.ruled(0), 1);
        p.log(0, 0, NONE);
        due("on no way", p.ruled(0), 0);
    }

    private static void look() {
        part("28 look");
        ProxyWalk p = on("roads 0;town;town;town;way 0 1 1;way 0 2 2;walker 0;walker 0",
            "go town if walker=1", "go 3-town if walker=1", "go town");
        due("walker 0: 0, 0, 0, way", p.look(0, 1), 2);
        due("walker 1: 0, way, 1, way", p.look(0, 0), 1);
        due("behind day 1", p.look(1, 0), 1);
        due("behind day 1: 0, 2, 0, 2", p.look(1, 1), 2);
        p.log(1, 1, 2);
        due("of two, walker 0 parts them", p.look(0, 0), 0);
        due("of two", p.look(0, 1), 1);
        p.log(1, 0, 0);
        due("of one the least walker", p.look(0, 0), 0);
        due("of one", p.look(60, 1), 1);
        due("61", p.look(61, 0), NONE);
        due("-1", p.look(-1, 0), NONE);
        due("what 2", p.look(0, 2), NONE);
        p.log(0, 0, 1);
        due("no rule", p.look(0, 0), -2);
        due("no rule", p.look(0, 1), -2);
        due("no walkers", on("roads 0;town").look(0, 0), -2);
        due("without roads", new ProxyWalk().look(0, 0), NONE);
    }

    private static void seed() {
        part("29 seed");
        ProxyWalk p = new ProxyWalk();
        due("0 at first", p.seed(2147483647), 0);
        due("below 0", p.seed(-1), NONE);
        due("nothing happens", p.count(13), 2147483647);
        due("what it was", p.seed(0), 2147483647);
    }

    /** The draws once more, of a walker who is on a way of two days to and fro, robbed or not. */
    private static int robberies(int x, int days, int p, int times) {
        long draw = x;
        int often = 0;
        for (int k = 0; k < times; k++) {
            int toGo = 0;
            for (int d = 0; d < days; d++) {
                if (toGo > 0) {
                    draw = (draw * 1103515245L + 12345L) % 2147483648L;
                    if (draw / 65536 % 100 < p) {
                        often++;
                        toGo++;
                    }
                }
                if (toGo == 0) toGo = 3;
                toGo--;
            }
        }
        return often;
    }

    private static void years() {
        part("30 years");
        ProxyWalk p = on("roads 0;town;town;way 0 1 3;walker 40;walker 0", "go 1 if walker=0");
        due("never", p.years(10, 60, 0, 0), 0);
        due("purses", p.years(10, 60, 0, 1), 400);
        due("always", p.years(2, 5, 100, 0), 8);
        due("purses", p.years(2, 5, 100, 1), 0);
        due("one day", p.years(1, 1, 100, 0), 0);
        for (int x = 0; x < 40; x++) {
            p.seed(x * 52345678);
            due("seed", p.count(13), x * 52345678 < 0 ? p.count(13) : x * 52345678);
            due("as drawn", p.years(3, 20, 30, 0), robberies(p.count(13), 20, 30, 3));
        }
        int x = p.count(13);
        due("x as it was", p.years(1, 60, 50, 0), robberies(x, 60, 50, 1));
        due("x as it was", p.count(13), x);
        due("m 0", p.years(0, 1, 0, 0), NONE);
        due("m 11", p.years(11, 1, 0, 0), NONE);
        due("n 0", p.years(1, 0, 0, 0), NONE);
        due("n 61", p.years(1, 61, 0, 0), NONE);
        due("p -1", p.years(1, 1, -1, 0), NONE);
        due("p 101", p.years(1, 1, 101, 0), NONE);
        due("what 2", p.years(1, 1, 0, 2), NONE);
        due("what -1", p.years(1, 1, 0, -1), NONE);
        due("nothing changes", p.count(7), 0);
        due("without roads", new ProxyWalk().years(1, 1, 0, 0), NONE);
    }

    private static void count() {
        part("31 count");
        ProxyWalk p = on(RING, SEEKER, "go 1");
        p.take(0, 0);
        p.take(0, 1);
        days(p, 4);
        p.log(1, 0, 0);
        p.seed(5);
        p.feed(0, 0, 0, 0, 0);
        int[] all = {5, 4, 4, 3, 2, 2, 0, 4, 2, 0, 3, 1, 6, 5, 20};
        for (int i = 0; i < all.length; i++) due("count(" + i + ")", p.count(i), all[i]);
        due("count(15)", p.count(15), NONE);
        due("count(-1)", p.count(-1), NONE);
        p.undo();
        due("in towns", p.count(10), 2);
        days(p, 7);
        due("paid", p.count(9), 3);
        due("sealed, paid or not", p.count(8), 3);
    }

    private static void images() {
        part("32, 33 image, back");
        ProxyWalk p = new ProxyWalk();
        due("never made", p.back(0), NONE);
        due("image(-1)", p.image(-1), NONE);
        due("image(4)", p.image(4), NONE);
        due("back(-1)", p.back(-1), NONE);
        due("back(4)", p.back(4), NONE);
        due("without roads", p.image(3), 0);
        roads(p, PAIR);
        rule(p, "go 1");
        p.force(0);
        p.take(0, 0);
        p.day();
        p.seed(3);
        p.log(0, 0, 1);
        due("image(0)", p.image(0), 1);
        roads(p, RING);
        rule(p, "go town");
        p.force(1);
        p.seed(4);
        p.feed(0, 0, 0, 0, 0);
        due("image(1)", p.image(1), 0);
        due("back(0)", p.back(0), 1);
        due("towns", p.count(1), 2);
        due("x", p.count(13), 3);
        due("logs", p.count(11), 1);
        due("force", p.count(6), 0);
        due("rules stay", p.count(5), 2);
        due("the tape stays", p.count(14), 20);
        due("acts", p.count(12), 2);
        due("shop", p.shop(1), 9);
        due("way", p.way(0, 1, 0), 1);
        due("sealed", p.count(8), 1);
        due("log", p.ruled(0), 2);
        due("undo", p.undo(), 1);
        due("undone", p.count(7), 0);
        due("undo", p.undo(), 0);
        due("back(0) again", p.back(0), 1);
        due("acts again", p.count(12), 2);
        due("other images stay", p.back(1), 0);
        due("towns", p.count(1), 4);
        due("no acts", p.undo(), -2);
        due("before there were roads", p.back(3), 0);
        due("no roads", p.day(), NONE);
        due("no towns", p.way(0, 0, 0), -3);
        due("none in force", p.count(6), NONE);
        due("images are made over", p.image(0), 0);
        due("images are made over", p.back(0), 0);
        due("no towns", p.count(1), 0);
        imagesHoldAll();
    }

    private static void imagesHoldAll() {
        ProxyWalk p = on("roads 9;town;town;town;shop 0 1;way 0 1 1;way 1 2 1;sentence 1 9 5;sentence 2 9 6;sentence 0 9 7;walker 9;walker 8",
            "go town", "go town if walker=0");
        p.take(0, 0);
        p.shell(0, 0);
        p.check(0);
        p.take(1, 1);
        p.shell(1, 1);
        p.log(0, 0, 1);
        p.log(1, 1, 0);
        p.image(2);
        due("banned, and so is the other one", p.check(1), 1);
        p.log(NONE, 0, 0);
        p.log(0, 0, 0);
        p.log(1, 0, 0);
        p.day();
        p.day();
        p.undo();
        due("none by that log", p.ruled(1), NONE);
        p.back(2);
        due("by the logs that were", p.ruled(0), 1);
        due("by the logs that were", p.ruled(1), 1);
        due("banned then", p.walker(0, 3), 9);
        due("not banned then", p.walker(1, 3), 0);
        due("walker 1's", p.walker(1, 4), 2);
        due("sealed", p.count(8), 2);
        due("bought", p.check(1), 1);
        due("banned now", p.walker(1, 3), 9);
        for (int left = 5; left >= 0; left--) due("undo", p.undo(), left);
        due("as at first", p.walker(0, 2), 9);
        due("as at first", p.walker(0, 3), 0);
        p.back(2);
        due("undo", p.undo(), 4);
        due("not sealed", p.count(8), 0);
        due("undo", p.undo(), 3);
        due("nobody's", p.sentence(1, 3), NONE);
        due("undo", p.undo(), 2);
        due("falsely sealed", p.check(0), 1);
    }

    public static void main(String[] args) {
        newObject();
        feed();
        end();
        roadsRead();
        ruleRead();
        force();
        sentence();
        walker();
        shop();
        day();
        take();
        giveBack();
        swap();
        shell();
        check();
        undo();
        ahead();
        way();
        meet();
        round();
        parted();
        seals();
        saves();
        owed();
        choose();
        log();
        ruled();
        look();
        seed();
        years();
        count();
        images();
        close();
    }
}
