/**
 * For each promise of the document answers worked out by hand: ordinary inputs, the edges that the
 * document names, and wrong inputs.
 */
public final class PromisesTest {
    private static final int NONE = -1, COUGHED = -2;
    private static final int UNKNOWN = -101, OUTSIDE = -102, STATE = -103, FULL = -104;
    private static final int[] WILD = {Integer.MIN_VALUE, -1000, -1, 64, 1000, Integer.MAX_VALUE};

    private static int wrong = 0;

    private static void due(String call, long got, long want) {
        if (got != want) {
            wrong++;
            System.out.println(call + " answered " + got + ", due is " + want);
        }
    }

    private static AccusedAsks write(AccusedAsks x, String text) {
        for (int i = 0; i < text.length(); i++) {
            x.letter(text.charAt(i));
        }
        return x;
    }

    private static AccusedAsks page(String text) {
        return write(new AccusedAsks(), text);
    }

    private static AccusedAsks courtOf(String text) {
        AccusedAsks x = page(text);
        due("court() of " + text, x.court(), text.indexOf(';') / 8 + 1);
        return x;
    }

    public static void main(String[] args) {
        newObject();
        letters();
        faults();
        lawFaults();
        courts();
        amendments();
        statutes();
        holding();
        kindsAndCasts();
        waysAndSays();
        oddsAndVerdicts();
        questions();
        coughs();
        learning();
        adjourning();
        left();
        luck();
        strikes();
        finding();
        benches();
        seen();
        assizes();
        images();
        counts();
        digests();
        System.out.println(wrong == 0 ? "all answers are as due" : wrong + " answers are not as due");
        if (wrong != 0) {
            System.exit(1);
        }
    }

    // Promise 1
    private static void newObject() {
        AccusedAsks x = new AccusedAsks();
        for (int what = 0; what <= 11; what++) {
            due("new count(" + what + ")", x.count(what), 0);
        }
        due("new judge(0, 0)", x.judge(0, 0), UNKNOWN);
        due("new as(0, 0)", x.as(0, 0), UNKNOWN);
        due("new ways(0)", x.ways(0), UNKNOWN);
        due("new says(0, 0)", x.says(0, 0), UNKNOWN);
        due("new odds(0, 0)", x.odds(0, 0), UNKNOWN);
        due("new ask(0, 0, 0)", x.ask(0, 0, 0), UNKNOWN);
        due("new learn(0, 0, 0)", x.learn(0, 0, 0), UNKNOWN);
        due("new adjourn(0)", x.adjourn(0), UNKNOWN);
        due("new find(0, 1, 0)", x.find(0, 1, 0), UNKNOWN);
        due("new see(0, 0, 0, 0)", x.see(0, 0, 0, 0), UNKNOWN);
        due("new bench()", x.bench(), STATE);
        due("new statute(0)", x.statute(0), STATE);
        due("new statute(6)", x.statute(6), OUTSIDE);
        due("new holds(0)", x.holds(0), STATE);
        due("new holds(64)", x.holds(64), OUTSIDE);
        due("new assizes(1, 0, 0)", x.assizes(1, 0, 0), STATE);
        due("new assizes(0, 0, 0)", x.assizes(0, 0, 0), OUTSIDE);
        due("new image()", x.image(), STATE);
        due("new restore()", x.restore(), STATE);
        due("new amend()", x.amend(), STATE);
        due("new court()", x.court(), STATE);
        due("new fault()", x.fault(), 0);
        due("new lawFault()", x.lawFault(), 0);
        due("new forget()", x.forget(), 0);
        due("new blank()", x.blank(), 0);
        due("amend() without a court", write(x, "a").amend(), STATE);
        due("the page stays", x.count(9), 1);
    }

    // Promises 2 and 3
    private static void letters() {
        AccusedAsks x = new AccusedAsks();
        due("letter(0)", x.letter(0), OUTSIDE);
        due("letter(127)", x.letter(127), OUTSIDE);
        due("letter(-1)", x.letter(-1), OUTSIDE);
        due("letter(MAX)", x.letter(Integer.MAX_VALUE), OUTSIDE);
        due("letter(MIN)", x.letter(Integer.MIN_VALUE), OUTSIDE);
        due("letter(1)", x.letter(1), 1);
        due("letter(126)", x.letter(126), 2);
        for (int i = 3; i <= 56; i++) {
            due("letter " + i, x.letter('a'), i);
        }
        due("letter 57", x.letter('a'), FULL);
        due("a wrong letter 57", x.letter(0), OUTSIDE);
        due("count(9) of a full page", x.count(9), 56);
        due("blank()", x.blank(), 56);
        due("blank() again", x.blank(), 0);
        due("letter after blank", x.letter('a'), 1);
    }

    // Promise 4
    private static void faultOf(String text, int want) {
        due("fault() of " + text, page(text).fault(), want);
    }

    private static void faults() {
        faultOf("", 0);
        faultOf("j", 1);
        faultOf("x", 0);
        faultOf("J??????;a", 0);
        faultOf("a??????;a", 0);
        faultOf("j01?01?;a", 9);
        faultOf("j012???;a", 3);
        faultOf("j?????;a", 6);
        faultOf("j???????", 7);
        faultOf("j??????,", 8);
        faultOf("j??????,;", 8);
        faultOf("j??????,s??????,c??????;a", 25);
        faultOf("j??????,s??????,c??????,p??????;a", 23);
        faultOf("j??????;;", 8);
        faultOf("j??????;a;", 9);
        faultOf("j??????;a b", 9);
        faultOf("j??????;", 8);
        faultOf("j??????;a|", 10);
        faultOf("j??????;ab", 9);
        faultOf("j??????;g", 8);
        faultOf("p1?????,v?????0;3[a,b|!c,(d)]&!!e", 33);
    }

    // Promise 7
    private static void lawFaultOf(String text, int want) {
        due("lawFault() of " + text, page(text).lawFault(), want);
    }

    private static void lawFaults() {
        lawFaultOf("", 0);
        lawFaultOf("a", 1);
        lawFaultOf("f", 1);
        lawFaultOf("g", 0);
        lawFaultOf("A", 0);
        lawFaultOf("&a", 0);
        lawFaultOf("|a", 0);
        lawFaultOf(")", 0);
        lawFaultOf("]", 0);
        lawFaultOf("[a]", 0);
        lawFaultOf("a&&b", 2);
        lawFaultOf("a|&b", 2);
        lawFaultOf("a!b", 1);
        lawFaultOf("a(b)", 1);
        lawFaultOf("a2[b]", 1);
        lawFaultOf("a)", 1);
        lawFaultOf("a]", 1);
        lawFaultOf("a,b", 1);
        lawFaultOf("()", 1);
        lawFaultOf("(a,b)", 2);
        lawFaultOf("(a]", 2);
        lawFaultOf("1[a)", 3);
        lawFaultOf("1[]", 2);
        lawFaultOf("1[a,]", 4);
        lawFaultOf("1[(a,b)]", 4);
        lawFaultOf("0[a]", 0);
        lawFaultOf("4[a]", 0);
        lawFaultOf("2a", 1);
        lawFaultOf("2(a)", 1);
        lawFaultOf("2!", 1);
        lawFaultOf("22[a]", 1);
        lawFaultOf("!", 1);
        lawFaultOf("!&a", 1);
        lawFaultOf("!3", 2);
        lawFaultOf("a;", 1);
        lawFaultOf("j??????;a", 0);
        lawFaultOf("c??????;a", 1);
        lawFaultOf("3[a&!!(b|c),2[d,e],f]", 21);
        lawFaultOf("(".repeat(56), 56);
        lawFaultOf("1[".repeat(28), 56);
        lawFaultOf("!".repeat(56), 56);
        lawFaultOf("(".repeat(27) + "a" + ")".repeat(28), 55);
    }

    // Promise 5
    private static void courts() {
        String[] none = {"", "j", "j??????", "j??????;", "j??????;a&", "j??????;(a", "j??????;1[a",
            "j??????;!", "j??????;2", "j??????,;a", "j??????;a;", "a", "j??????;a,"};
        for (String text : none) {
            AccusedAsks x = page(text);
            due("court() of " + text, x.court(), STATE);
            due("the page stays", x.count(9), text.length());
            due("no court is read", x.count(10), 0);
        }
        AccusedAsks x = courtOf("j10?01?;a");
        due("the page is empty", x.count(9), 0);
        due("a is known", x.judge(0, 20), 1);
        due("b is known", x.judge(0, 21), 0);
        due("c is not", x.judge(0, 22), NONE);
        due("d is known", x.judge(0, 23), 0);
        due("e is known", x.judge(0, 24), 1);
        due("f is not", x.judge(0, 25), NONE);
        x.ask(0, 2, 1);
        x.see(0, 0, 1, 1);
        write(x, "b").amend();
        x.image();
        due("court() of no court", write(x, "?").court(), STATE);
        due("the old one stays", x.count(6), 1);
        due("its image too", x.restore(), 1);
        x.blank();
        due("court() again", write(x, "s??????,p??????;a&d").court(), 2);
        due("questions are gone", x.count(5), 0);
        due("heard is gone", x.count(6), 0);
        due("known is gone", x.count(7), 0);
        due("seen is gone", x.count(8), 0);
        due("courts", x.count(10), 2);
        due("amendments are gone", x.count(11), 0);
        due("the image is gone", x.restore(), STATE);
        due("kind 0", x.judge(0, 0), 1);
        due("kind 1", x.judge(1, 0), 3);
        due("the longest court", courtOf("j??????,s??????,c??????;" + "!".repeat(31) + "a").holds(0), 1);
    }

    // Promise 6
    private static void amendments() {
        AccusedAsks x = courtOf("j??????;a");
        due("amend() of an empty page", x.amend(), STATE);
        due("amend() of a court", write(x, "j??????;a").amend(), STATE);
        due("the page stays", x.blank(), 9);
        due("amend() of half a law", write(x, "(a").amend(), STATE);
        due("amend() when it is whole", write(x, ")").amend(), 32);
        due("the page is empty", x.count(9), 0);
        x.ask(0, 0, 1);
        due("amend()", write(x, "a&b&c").amend(), 8);
        due("what was heard stays", x.judge(0, 30), 1);
        due("amended", x.count(11), 2);
        due("a law that never holds", write(x, "a&!a").amend(), 0);
        due("a law that always holds", write(x, "a|!a").amend(), 64);
        due("verdict", x.judge(0, 3), 1);
        write(x, "!2[a,(b)]").amend();
        int[] counted = {48, 3, 2, 1, 1, 2};
        for (int what = 0; what < counted.length; what++) {
            due("statute(" + what + ") of another law", x.statute(what), counted[what]);
        }
    }

    // Promise 8
    private static void lawOf(String law, int... want) {
        AccusedAsks x = courtOf("j??????;" + law);
        for (int what = 0; what < want.length; what++) {
            due("statute(" + what + ") of " + law, x.statute(what), want[what]);
        }
    }

    private static void statutes() {
        lawOf("a", 32, 1, 1, 0, 0, 0);
        lawOf("!!!f", 32, 32, 1, 3, 0, 0);
        lawOf("a|b&c", 40, 7, 3, 0, 0, 0);
        lawOf("a|b|c", 56, 7, 3, 0, 0, 0);
        lawOf("a&b&c", 8, 7, 3, 0, 0, 0);
        lawOf("(a|b)&c", 24, 7, 3, 0, 0, 1);
        lawOf("!a&b", 16, 3, 2, 1, 0, 0);
        lawOf("!(a&b)", 48, 3, 2, 1, 0, 1);
        lawOf("a|!a", 64, 0, 2, 1, 0, 0);
        lawOf("a&(b|!b)", 32, 1, 3, 1, 0, 1);
        lawOf("2[a,b,c]", 32, 7, 3, 0, 1, 1);
        lawOf("3[a,b,c,d]", 20, 15, 4, 0, 1, 1);
        lawOf("1[a,b,c,d]", 60, 15, 4, 0, 1, 1);
        lawOf("3[a,b]", 0, 0, 2, 0, 1, 1);
        lawOf("2[a,a]", 32, 1, 2, 0, 1, 1);
        lawOf("!2[a|b,c&d,!e]&f", 16, 63, 6, 2, 1, 1);
        lawOf("1[2[a,(b),(c)],((d))]", 48, 15, 4, 0, 2, 3);
        lawOf("((a))|(b)", 48, 3, 2, 0, 0, 2);
        for (int what : WILD) {
            due("statute(" + what + ")", courtOf("j??????;a").statute(what), OUTSIDE);
        }
        due("statute(6)", courtOf("j??????;a").statute(6), OUTSIDE);
    }

    // Promise 9
    private static void holding() {
        AccusedAsks x = courtOf("v??????;a&!f");
        due("holds(1)", x.holds(1), 1);
        due("holds(33)", x.holds(33), 0);
        due("holds(0)", x.holds(0), 0);
        due("holds(31)", x.holds(31), 1);
        due("holds(63)", x.holds(63), 0);
        for (int world : WILD) {
            due("holds(" + world + ")", x.holds(world), OUTSIDE);
        }
    }

    // Promises 10 (what = 0) and 11
    private static void kindsAndCasts() {
        String letters = "jscpv";
        for (int kind = 0; kind < 5; kind++) {
            AccusedAsks x = courtOf("j??????," + letters.charAt(kind) + "??????;a");
            due("kind", x.judge(1, 0), kind);
            for (int as = 0; as < 5; as++) {
                boolean fits = as == 0 || as == kind || (kind == 4 && as == 3);
                due("as(1, " + as + ") of " + kind, x.as(1, as), fits ? 1 : NONE);
            }
            due("as(1, 5)", x.as(1, 5), OUTSIDE);
            due("as(2, 5)", x.as(2, 5), UNKNOWN);
            for (int wild : WILD) {
                due("as(1, wild)", x.as(1, wild), OUTSIDE);
                due("as(wild, 0)", x.as(wild, 0), UNKNOWN);
                due("judge(wild, 0)", x.judge(wild, 0), UNKNOWN);
                due("judge(wild, 99)", x.judge(wild, 99), UNKNOWN);
                due("judge(0, wild)", x.judge(0, wild), OUTSIDE);
            }
            int[] gaps = {11, 19, 26, 29, 36};
            for (int what : gaps) {
                due("judge(0, " + what + ")", x.judge(0, what), OUTSIDE);
            }
        }
    }

    // Promises 12 and 13
    private static void waysAndSays() {
        AccusedAsks x = courtOf("j??????,s1?????,p?????0;a");
        due("ways(0)", x.ways(0), -1L);
        due("ways(1)", x.ways(1), 0xAAAAAAAAAAAAAAAAL);
        due("ways(2)", x.ways(2), 0x00000000FFFFFFFFL);
        due("ways(3)", x.ways(3), UNKNOWN);
        due("ways(-1)", x.ways(-1), UNKNOWN);
        due("judge(2, 1)", x.judge(2, 1), 32);
        int[] worlds = {0, 7, 56, 42, 63};
        int[][] said = {{0, 7, 56, 42, 63}, {56, 63, 56, 58, 63}, {0, 7, 56, 42, 63},
            {0, 0, 56, 40, 56}, {32, 32, 56, 40, 56}};
        String letters = "jscpv";
        for (int kind = 0; kind < 5; kind++) {
            AccusedAsks y = courtOf(letters.charAt(kind) + "??????;a");
            for (int i = 0; i < worlds.length; i++) {
                due("says of kind " + kind, y.says(0, worlds[i]), said[kind][i]);
            }
            for (int wild : WILD) {
                due("says(0, wild)", y.says(0, wild), OUTSIDE);
                due("says(wild, wild)", y.says(wild, wild), UNKNOWN);
            }
        }
        due("vain, f not so", courtOf("v??????;f").says(0, 0), 32);
    }

    // Promises 10 (what = 1 to 3) and 14
    private static void oddsOf(String court, int ways, int frees, int verdict, int above, int below) {
        AccusedAsks x = courtOf(court);
        due("ways of " + court, x.judge(0, 1), ways);
        due("frees of " + court, x.judge(0, 2), frees);
        due("verdict of " + court, x.judge(0, 3), verdict);
        due("odds above of " + court, x.odds(0, 0), above);
        due("odds below of " + court, x.odds(0, 1), below);
        due("odds(0, 2)", x.odds(0, 2), OUTSIDE);
        due("odds(0, -1)", x.odds(0, -1), OUTSIDE);
        due("odds(1, 2)", x.odds(1, 2), UNKNOWN);
    }

    private static void oddsAndVerdicts() {
        oddsOf("j??????;a", 64, 32, 0, 1, 2);
        oddsOf("j1?????;a", 32, 32, 1, 1, 1);
        oddsOf("j0?????;a", 32, 0, 2, 0, 1);
        oddsOf("p??????;a", 64, 0, 2, 0, 1);
        oddsOf("p1?????;a", 32, 0, 2, 0, 1);
        oddsOf("p1?????;!a", 32, 32, 1, 1, 1);
        oddsOf("s??????;d&e&f", 64, 64, 1, 1, 1);
        oddsOf("v??????;f&d", 64, 32, 0, 1, 2);
        oddsOf("c??????;3[a,b,c,d]", 64, 20, 0, 5, 16);
        oddsOf("j11111?;2[a,b,c]&f", 2, 1, 0, 1, 2);
        oddsOf("j111111;a", 1, 1, 1, 1, 1);
    }

    // Promise 15, and 10 (what = 7, 30 to 35)
    private static void questions() {
        AccusedAsks x = courtOf("j?1????,p??????;a&b");
        due("ask(2, 0, 1)", x.ask(2, 0, 1), UNKNOWN);
        due("ask(-1, 0, 1)", x.ask(-1, 0, 1), UNKNOWN);
        due("ask(0, 6, 1)", x.ask(0, 6, 1), UNKNOWN);
        due("ask(0, -1, 2)", x.ask(0, -1, 2), UNKNOWN);
        due("ask(0, 0, 2)", x.ask(0, 0, 2), OUTSIDE);
        due("ask(0, 0, -1)", x.ask(0, 0, -1), OUTSIDE);
        due("against what is known", x.ask(0, 1, 0), STATE);
        due("as is known", x.ask(0, 1, 1), 32);
        due("the same again", x.ask(0, 1, 1), STATE);
        due("a, so", x.ask(0, 0, 1), 16);
        due("a, not so", x.ask(0, 0, 0), STATE);
        due("verdict", x.judge(0, 3), 1);
        due("heard on a", x.judge(0, 30), 1);
        due("heard on c", x.judge(0, 32), NONE);
        due("heard facts", x.judge(0, 7), 2);
        due("a is not known by that", x.judge(0, 20), NONE);
        due("a proud one says no 1", x.ask(1, 0, 1), STATE);
        due("a proud one says 0", x.ask(1, 0, 0), 64);
        due("heard 0 of him", x.judge(1, 30), 0);
        due("and is honest on f", x.ask(1, 5, 0), 32);
        due("ways then", x.ways(1), 0x00000000FFFFFFFFL);
        due("heard on f", x.judge(1, 35), 0);
        due("questions", x.count(5), 4);
        due("a silent one says 1", courtOf("s?????0;a").ask(0, 5, 1), 32);
        due("a silent one says no 0", courtOf("s?????0;a").ask(0, 5, 0), STATE);
        due("a vain one says 1 on f", courtOf("v?????0;a").ask(0, 5, 1), 32);
        due("a vain one says no 0 on f", courtOf("v?????0;a").ask(0, 5, 0), STATE);
    }

    // Promise 15: COUGHS
    private static void coughs() {
        AccusedAsks x = courtOf("c1?????,c??????;a");
        due("what he cannot say", x.ask(0, 0, 0), STATE);
        due("a refused one is no question", x.count(5), 0);
        due("he coughs", x.ask(0, 0, 1), COUGHED);
        due("nothing is heard", x.judge(0, 7), 0);
        due("nothing is heard on a", x.judge(0, 30), NONE);
        due("a question all the same", x.count(5), 1);
        due("asked again", x.ask(0, 0, 1), 32);
        due("the other coughs, too", x.ask(1, 3, 0), COUGHED);
        due("ways stay", x.judge(1, 1), 64);
        due("another question", x.ask(1, 4, 0), 32);
        due("questions", x.count(5), 4);
        due("adjourn", x.adjourn(1), 1);
        due("he coughs again", x.ask(1, 4, 0), COUGHED);
        due("adjourn, nothing heard", x.adjourn(1), 0);
        due("and again", x.ask(1, 4, 0), COUGHED);
        due("then no more", x.ask(1, 4, 0), 32);
    }

    // Promise 16
    private static void learning() {
        AccusedAsks x = courtOf("j??????,p??????;a");
        due("learn(2, 0, 0)", x.learn(2, 0, 0), UNKNOWN);
        due("learn(0, 6, 0)", x.learn(0, 6, 0), UNKNOWN);
        due("learn(0, -1, 3)", x.learn(0, -1, 3), UNKNOWN);
        due("learn(0, 0, 2)", x.learn(0, 0, 2), OUTSIDE);
        due("learn(0, 0, -1)", x.learn(0, 0, -1), OUTSIDE);
        due("learn(0, 0, 1)", x.learn(0, 0, 1), 32);
        due("it is known", x.judge(0, 20), 1);
        due("known already", x.learn(0, 0, 1), STATE);
        due("known otherwise", x.learn(0, 0, 0), STATE);
        due("verdict", x.judge(0, 3), 1);
        x.ask(0, 5, 0);
        due("against what was heard", x.learn(0, 5, 1), STATE);
        due("as was heard", x.learn(0, 5, 0), 16);
        due("known 0", x.judge(0, 25), 0);
        x.ask(1, 0, 0);
        due("a proud one's a is free yet", x.learn(1, 0, 1), 32);
        due("known, all", x.count(7), 3);
        due("no question", x.count(5), 2);
        due("adjourn", x.adjourn(0), 1);
        due("what is known stays", x.judge(0, 1), 16);
    }

    // Promise 17
    private static void adjourning() {
        AccusedAsks x = courtOf("j??????,s??????;a");
        x.ask(0, 0, 1);
        x.ask(0, 1, 0);
        x.ask(1, 2, 1);
        due("adjourn(2)", x.adjourn(2), UNKNOWN);
        due("adjourn(-1)", x.adjourn(-1), UNKNOWN);
        due("adjourn(0)", x.adjourn(0), 2);
        due("ways", x.ways(0), -1L);
        due("the other's stay", x.judge(1, 7), 1);
        due("questions stay", x.count(5), 3);
        due("again", x.adjourn(0), 0);
        due("asked again, otherwise", x.ask(0, 0, 0), 32);
    }

    // Promise 10 (what = 4, 5)
    private static void leftOf(String court, int few, int first) {
        AccusedAsks x = courtOf(court);
        due("left of " + court, x.judge(0, 4), few);
        due("first of " + court, x.judge(0, 5), first);
    }

    private static void left() {
        leftOf("j??????;a", 1, 0);
        leftOf("j??????;f", 1, 5);
        leftOf("j??????;b&c", 2, 1);
        leftOf("j??????;a&b|!a&c", 2, 0);
        leftOf("j??????;c&a|!c&b", 2, 2);
        leftOf("j??????;2[a,b,c]", 3, 0);
        leftOf("c??????;2[b,c,d]", 3, 1);
        leftOf("j1?????;a", 0, NONE);
        leftOf("j0?????;a", 0, NONE);
        leftOf("p??????;a|d", 1, 3);
        leftOf("v??????;a|d&f|e&!f", 1, 3);
        leftOf("s??????;d&a", 1, 0);
        leftOf("j??????;a&b&c&d&e&f", 6, 0);
        AccusedAsks x = courtOf("j??????;2[a,b,c]");
        x.ask(0, 1, 1);
        due("left, b heard", x.judge(0, 4), 2);
        due("first, b heard", x.judge(0, 5), 0);
        x.ask(0, 0, 1);
        due("left, a heard", x.judge(0, 4), 0);
        due("first, a heard", x.judge(0, 5), NONE);
        write(x, "a&d").amend();
        due("left, by another law", x.judge(0, 4), 1);
        due("first, by another law", x.judge(0, 5), 3);
        write(x, "a&e&!f").amend();
        due("left, by a third law", x.judge(0, 4), 2);
        due("first, by a third law", x.judge(0, 5), 4);
        x = courtOf("j??????,v??????,s??????;!a&d");
        due("left of j", x.judge(0, 4), 2);
        due("left of v", x.judge(1, 4), 1);
        due("first of v", x.judge(1, 5), 3);
        due("left of s", x.judge(2, 4), 1);
        due("first of s", x.judge(2, 5), 0);
        due("first of j", x.judge(0, 5), 0);
    }

    // Promise 10 (what = 6)
    private static void luckOf(String court, int want) {
        due("luck of " + court, courtOf(court).judge(0, 6), want);
    }

    private static void luck() {
        luckOf("j??????;a", 1);
        luckOf("j1?????;a", 0);
        luckOf("j0?????;a", NONE);
        luckOf("p??????;a", NONE);
        luckOf("j??????;a&b|c", 1);
        luckOf("j??????;a&b|a&c", 2);
        luckOf("c??????;3[a,b,c,d]", 3);
        luckOf("s??????;a&d", 1);
        luckOf("v??????;a|d&e&f", 2);
        luckOf("j??????;a&b&c&d&e&f", 6);
    }

    // Promise 10 (what = 8)
    private static void strikeOf(String court, int want) {
        due("strike of " + court, courtOf(court).judge(0, 8), want);
    }

    private static void strikes() {
        strikeOf("j??????;a", NONE);
        strikeOf("j??????;!a", 0);
        strikeOf("j??????;!a&b", 0);
        strikeOf("j??????;b&!c&!e", 2);
        strikeOf("j??????;b|!c&!e", 2);
        strikeOf("s??????;a&!e", 4);
        strikeOf("v??????;d&!f", 5);
        strikeOf("p??????;!a", NONE);
        strikeOf("j0?????;!a", NONE);
        strikeOf("j1?????;!a&b|!b", 0);
    }

    // Promise 18
    private static void findOf(String court, int many, int which, int how) {
        AccusedAsks x = courtOf(court);
        due("find(0, " + many + ", 0) of " + court, x.find(0, many, 0), which);
        due("find(0, " + many + ", 1) of " + court, x.find(0, many, 1), how);
    }

    private static void finding() {
        findOf("j??????;a", 1, 1, 32);
        findOf("j??????;a", 3, 1, 32);
        findOf("j??????;a&b", 1, 0, 0);
        findOf("j??????;a&b", 2, 3, 16);
        findOf("j??????;a&d|b&c", 2, 6, 16);
        findOf("j??????;b|c", 1, 2, 32);
        findOf("j??????;b|c", 2, 6, 48);
        findOf("j??????;3[a,b,c]", 2, 0, 0);
        findOf("j??????;3[a,b,c]", 3, 7, 8);
        findOf("j1?????;a", 3, 0, 32);
        findOf("j0?????;a", 3, 0, 0);
        findOf("p??????;a|!b&d", 2, 8, 32);
        findOf("j1?????;a&b", 2, 2, 16);
        AccusedAsks x = courtOf("j??????;a&b");
        x.ask(0, 0, 1);
        due("find, a heard", x.find(0, 2, 0), 2);
        due("find, a heard, in how many", x.find(0, 2, 1), 16);
        due("find(1, 1, 0)", x.find(1, 1, 0), UNKNOWN);
        due("find(1, 0, 9)", x.find(1, 0, 9), UNKNOWN);
        due("find(0, 0, 0)", x.find(0, 0, 0), OUTSIDE);
        due("find(0, 4, 0)", x.find(0, 4, 0), OUTSIDE);
        due("find(0, 1, 2)", x.find(0, 1, 2), OUTSIDE);
        due("find(0, 1, -1)", x.find(0, 1, -1), OUTSIDE);
    }

    // Promise 19
    private static void benches() {
        due("bench, all alike", courtOf("j??????,c??????,j?1????;a").bench(), 0);
        due("bench, the last", courtOf("j0?????,j??????,j1?????;a").bench(), 2);
        due("bench, like ones", courtOf("j0?????,j1?????,j11????;a").bench(), 1);
        due("bench, as a share", courtOf("j??????,j1111??;e&f|a&e").bench(), 1);
        due("bench, none frees", courtOf("p??????,j0?????;a").bench(), 0);
        AccusedAsks x = courtOf("j??????,j1?????;a");
        due("bench", x.bench(), 1);
        x.ask(0, 0, 1);
        due("bench, he said so", x.bench(), 0);
    }

    // Promises 20 and 21, and 10 (what = 9, 10)
    private static void seen() {
        AccusedAsks x = courtOf("j??????,v??????;a");
        due("kinds", x.judge(0, 9), 31);
        due("test", x.judge(0, 10), 1);
        due("see(2, 0, 0, 0)", x.see(2, 0, 0, 0), UNKNOWN);
        due("see(0, 6, 2, 2)", x.see(0, 6, 2, 2), UNKNOWN);
        due("see(0, -1, 0, 0)", x.see(0, -1, 0, 0), UNKNOWN);
        due("see(0, 0, 2, 0)", x.see(0, 0, 2, 0), OUTSIDE);
        due("see(0, 0, 0, -1)", x.see(0, 0, 0, -1), OUTSIDE);
        due("d, not so, said", x.see(0, 3, 0, 1), 1);
        due("silent", x.judge(0, 9), 2);
        due("test of one", x.judge(0, 10), 0);
        due("the other", x.judge(1, 9), 31);
        due("a, so, not said", x.see(1, 0, 1, 0), 2);
        due("proud or vain", x.judge(1, 9), 24);
        due("test: f, not so", x.judge(1, 10), 10);
        due("f, not so, not said", x.see(1, 5, 0, 0), 3);
        due("proud", x.judge(1, 9), 8);
        due("c, not so, said: none", x.see(1, 2, 0, 1), 4);
        due("no kind", x.judge(1, 9), 0);
        due("no test", x.judge(1, 10), NONE);
        due("a, so, said", x.see(0, 0, 1, 1), 5);
        due("silent yet", x.judge(0, 9), 2);
        due("the same again", x.see(0, 0, 1, 1), 6);
        x.see(0, 0, 1, 1);
        due("the eighth", x.see(0, 0, 1, 1), 8);
        due("the ninth", x.see(0, 0, 1, 1), FULL);
        due("a wrong ninth", x.see(0, 0, 1, 2), OUTSIDE);
        due("seen", x.count(8), 8);
        due("forget", x.forget(), 8);
        due("forget again", x.forget(), 0);
        due("kinds after", x.judge(1, 9), 31);
        due("see after", x.see(0, 0, 1, 1), 1);
        due("not proud", x.judge(0, 9), 7);
        due("test of j, s, c", x.judge(0, 10), 6);
        due("seeing is no hearing", x.count(6), 0);
    }

    // Promise 22
    private static void assizes() {
        AccusedAsks x = courtOf("j111111;a&!f");
        due("all is known: no free one", x.assizes(60, 7, 0), 0);
        due("all is known: worlds", x.assizes(60, 7, 1), 60 * 63);
        due("the seed after one draw", x.assizes(1, 0, 2), 12345);
        due("the seed after two draws", x.assizes(2, 0, 2), (1103515245L * 12345 + 12345) % 2147483648L);
        due("the greatest seed", x.assizes(1, Integer.MAX_VALUE, 2), (1103515245L * Integer.MAX_VALUE + 12345) % 2147483648L);
        due("assizes(0, 0, 0)", x.assizes(0, 0, 0), OUTSIDE);
        due("assizes(61, 0, 0)", x.assizes(61, 0, 0), OUTSIDE);
        due("assizes(1, -1, 0)", x.assizes(1, -1, 0), OUTSIDE);
        due("assizes(1, 0, 3)", x.assizes(1, 0, 3), OUTSIDE);
        due("assizes(1, 0, -1)", x.assizes(1, 0, -1), OUTSIDE);
        assizesByHand(1);
        assizesByHand(99);
        assizesByHand(2000000000);
    }

    /** One judge honest, with a and c known; one proud: his world counts as it is. */
    private static void assizesByHand(int seed) {
        AccusedAsks x = courtOf("j1?0???,p??????;a&b|!a&e");
        x.ask(0, 1, 0);
        long s = seed;
        int often = 0;
        int sum = 0;
        for (int i = 0; i < 11; i++) {
            s = (s * 1103515245L + 12345L) % 2147483648L;
            boolean proud = s / 65536 % 2 == 1;
            int world = proud ? 0 : 1;
            for (int fact = 0; fact < 6; fact++) {
                if (proud || (fact != 0 && fact != 2)) {
                    s = (s * 1103515245L + 12345L) % 2147483648L;
                    world += (int) (s / 65536 % 2) << fact;
                }
            }
            sum += world;
            often += (proud ? (world & 16) != 0 : (world & 2) != 0) ? 1 : 0;
        }
        due("assizes by " + seed + ", often", x.assizes(11, seed, 0), often);
        due("assizes by " + seed + ", worlds", x.assizes(11, seed, 1), sum);
        due("assizes by " + seed + ", seed", x.assizes(11, seed, 2), s);
        due("nothing changes", x.count(2), 8 + 64);
    }

    // Promises 23 and 24
    private static void images() {
        AccusedAsks x = courtOf("c??????,j??????;a");
        due("none is kept", x.restore(), STATE);
        x.ask(0, 0, 1);
        x.ask(1, 0, 1);
        x.learn(1, 3, 1);
        x.see(0, 3, 0, 1);
        write(x, "2[a,!b]").amend();
        due("image()", x.image(), 2);
        long then = x.digest();
        due("he coughed already", x.ask(0, 0, 1), 32);
        x.ask(1, 1, 0);
        x.learn(0, 5, 0);
        x.see(0, 0, 1, 1);
        x.forget();
        x.see(1, 1, 1, 0);
        x.see(1, 2, 1, 0);
        write(x, "(c)").amend();
        due("restore()", x.restore(), 2);
        due("all is as it was", x.digest(), then);
        due("amended", x.count(11), 1);
        due("he has coughed", x.ask(0, 0, 1), 32);
        x.adjourn(0);
        due("he coughs again", x.ask(0, 0, 1), COUGHED);
        write(x, "abc");
        due("restore() once more", x.restore(), 2);
        due("the page is not kept", x.blank(), 3);
        due("all is as it was again", x.digest(), then);
        x.ask(1, 5, 1);
        due("another image", x.image(), 3);
        x.adjourn(1);
        due("the latest", x.restore(), 3);
        due("heard", x.judge(1, 35), 1);
        due("the same court again", write(x, "c??????,j??????;a").court(), 2);
        due("another court since", x.restore(), STATE);
        due("its image", x.image(), 0);
        due("its restore", x.restore(), 0);
        due("courts are not taken back", x.count(10), 2);
    }

    // Promise 25
    private static void counts() {
        AccusedAsks x = courtOf("j1?????,s?0????,p??????;a|b");
        x.ask(1, 0, 0);
        x.ask(1, 3, 1);
        x.ask(0, 5, 1);
        x.learn(0, 4, 0);
        x.see(0, 0, 0, 0);
        write(x, "ab");
        int[] want = {3, 48, 8 + 16 + 64, 1, 2, 3, 3, 3, 1, 2, 1, 0};
        for (int what = 0; what < want.length; what++) {
            due("count(" + what + ")", x.count(what), want[what]);
        }
        due("count(12)", x.count(12), OUTSIDE);
        for (int what : WILD) {
            due("count(wild)", x.count(what), OUTSIDE);
        }
    }

    // Promise 26
    private static void digests() {
        long h = 1103;
        for (int i = 0; i < 12; i++) {
            h = 31 * h;
        }
        due("digest of a new object", new AccusedAsks().digest(), h);
        h = 31 * (31 * 1103 + 'x') + '?';
        int[] counts = {0, 0, 0, 0, 0, 0, 0, 0, 0, 2, 0, 0};
        due("digest of a page", page("x?").digest(), with(h, counts));
        AccusedAsks x = courtOf("j1?????;a&b");
        x.ask(0, 5, 0);
        x.letter('z');
        int[] judge = {0, 16, 8, 0, 1, 1, 1, 1, NONE, 31, 1, 1, NONE, NONE, NONE, NONE, NONE,
            NONE, NONE, NONE, NONE, NONE, 0};
        h = with(1103, judge);
        h = 31 * h + 0x00000000AAAAAAAAL;
        h = with(h, new int[] {1, 2, 2, 8});
        h = with(h, new int[] {16, 3, 2, 0, 0, 0, 0});
        h = 31 * h + 'z';
        due("digest", x.digest(), with(h, new int[] {1, 16, 16, 0, 0, 1, 1, 1, 0, 1, 1, 0}));
    }

    private static long with(long before, int[] numbers) {
        long h = before;
        for (int number : numbers) {
            h = 31 * h + number;
        }
        return h;
    }
}
