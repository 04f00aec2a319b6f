/** The document's first lines, phrase by phrase, on one set of ROADS; the face is compared by DocumentTest. */
public final class WhatItIsTest extends Bench {
    private static final String ROADS = "roads 2;town;town;town;shop 1 3;way 0 1 1;way 1 2 2;sentence 2 9 30;sentence 1 4 7;walker 5;walker 6";
    /** Further on as long as something is asked for, else home. */
    private static final String RULE = "go 9-home if has>0 and has=sealed;go town if has>0";

    public static void main(String[] args) {
        runAll(WhatItIsTest.class, args);
    }

    @Sentence(of = "What it is", says = "Walked for another's sins: roads, told in a language, of towns, some of which sell shells, of ways by days, "
        + "of sentences by town, day and fee, of walkers by purse;")
    static void roadsAreTold() {
        ProxyWalk p = on(ROADS);
        due("towns", p.count(1), 3);
        due("the one that sells shells", p.shop(1), 3);
        due("one that does not", p.shop(2), 0);
        due("ways", p.count(2), 2);
        due("days of a way", p.way(2, 1, 0), 2);
        due("town of a sentence", p.sentence(0, 0), 2);
        due("its day", p.sentence(0, 1), 9);
        due("its fee", p.sentence(0, 2), 30);
        due("purse of walker 0", p.walker(0, 2), 5);
        due("purse of walker 1", p.walker(1, 2), 6);
    }

    @Sentence(of = "What it is", says = "days by hand, on which walkers go on by a rule told in a language, are sealed where a sentence asks for it, "
        + "are paid back home;")
    static void daysByHand() {
        ProxyWalk p = on(ROADS, RULE);
        due("take", p.take(0, 0), 1);
        due("to town 1", p.day(), 0);
        due("in town 1", p.walker(0, 0), 1);
        due("on the way to town 2", p.day(), 0);
        due("days to go", p.walker(0, 1), 1);
        due("sealed in town 2", p.day(), 1);
        due("not paid there", p.count(9), 0);
        due("back home", days(p, 3), 0);
        due("paid at home", p.count(9), 1);
        due("the fee is in the purse", p.walker(0, 2), 35);
        due("who has none stays", p.walker(1, 0), 0);
    }

    @Sentence(of = "What it is", says = "sentences taken, given back, swapped, shells bought in place of going, checked;")
    static void actsByHand() {
        ProxyWalk p = on(ROADS, RULE);
        due("taken", p.take(0, 0), 1);
        due("given back", p.giveBack(0, 0), 0);
        due("nobody's", p.sentence(0, 3), NONE);
        due("taken again", p.take(0, 0), 1);
        due("swapped", p.swap(0, 1), true);
        due("whose", p.sentence(0, 3), 1);
        days(p, 1);
        due("a shell bought", p.shell(1, 0), 3);
        due("in place of going", p.walker(1, 0), 1);
        due("sealed", p.sentence(0, 4), 1);
        due("checked", p.check(0), 1);
        due("as at first", p.sentence(0, 4), 0);
    }

    @Sentence(of = "What it is", says = "how it goes on, ways, the round by which one walker earns most, "
        + "the sentences parted among all so that most is earned, the fewest towns at which a judge must ask for a seal, "
        + "what cheating saves, what is owed when one dies on the way, where two meet, which sentence to take now,")
    static void whatIsAsked() {
        ProxyWalk p = on(ROADS, RULE);
        due("which sentence to take now", p.choose(0, 6, 0), 0);
        due("how much", p.choose(0, 6, 1), 35);
        due("in a day less the other one", p.choose(0, 5, 0), 1);
        p.take(0, 0);
        due("how it goes on", p.ahead(0, 3, 0), 2);
        due("the way home", p.way(2, 0, 0), 3);
        due("the round", p.round(0, 0), 37);
        due("its days", p.round(0, 2), 6);
        due("of the other one", p.round(1, 0), 7);
        due("parted", p.parted(0), 37);
        due("at town 2 alone", p.seals(2, 1), 4);
        due("what cheating saves", p.saves(0), 4);
        days(p, 2);
        due("what is owed", p.owed(0, 0), 30);
        due("they meet at home", p.meet(0, 1), 6);
    }

    @Sentence(of = "What it is", says = "by which rule logs were so and where to look next, years of thieves drawn;")
    static void logsAndThieves() {
        ProxyWalk p = on(ROADS, RULE, "go 2-town");
        due("none, and both rules", p.ruled(0), 3);
        due("where to look next", p.look(0, 0), 0);
        p.log(0, 0, 1);
        due("left", p.ruled(0), 2);
        due("behind a day more", p.look(1, 1), 1);
        p.log(1, 0, NONE);
        due("by which rule", p.ruled(1), 0);
        p.take(0, 0);
        due("thieves on each day on a way", p.years(1, 3, 100, 0), 1);
        due("what they leave", p.years(1, 3, 100, 1), 6);
        due("without thieves", p.years(1, 3, 0, 1), 11);
    }

    @Sentence(of = "What it is", says = "acts undone; images gone back to. ==== I.")
    static void undoneAndGoneBackTo() {
        ProxyWalk p = on(ROADS, RULE);
        due("an image", p.image(2), 0);
        p.take(0, 0);
        days(p, 3);
        due("a day undone", p.undo(), 3);
        due("not sealed", p.count(8), 0);
        due("gone back to", p.back(2), 0);
        due("nobody's", p.sentence(0, 3), NONE);
    }

    @Sentence(of = "What it is", says = "An object is used for at most 512 calls after it has been made; what later calls answer is free.")
    static void the512thCall() {
        ProxyWalk p = new ProxyWalk();
        ProxyWalk other = new ProxyWalk();
        for (int call = 1; call < 512; call++) p.seed(call);
        due("the 512th call", p.seed(0), 511);
        due("nothing of it is another object's", other.count(13), 0);
    }
}
