import java.math.BigInteger;
import java.util.ArrayList;
import java.util.Arrays;
import java.util.List;
import java.util.function.IntPredicate;
import java.util.function.Supplier;
import java.util.function.ToLongFunction;

/**
 * Each sentence of the document that names a boundary case (too small, too large, empty, full, a
 * wrap-around, a refused call) has a test of its own here, under its promise and its own words.
 */
public final class BoundaryTest {
    private static final int NONE = -1, COUGHED = -2;
    private static final int UNKNOWN = -101, OUTSIDE = -102, STATE = -103, FULL = -104;
    private static final int MIN = Integer.MIN_VALUE, MAX = Integer.MAX_VALUE;
    private static final int PAGE = 56, PROMISES = 26;
    private static final String PART = "abcdef!(123", KIND_LETTERS = "jscpv";

    private static final int[] testsOfPromise = new int[PROMISES + 1];
    private static String test = "";
    private static int checks = 1;
    private static int wrong = 0;

    public static void main(String[] args) {
        newObject();
        letter();
        blank();
        fault();
        lawFault();
        court();
        courtReplaced();
        amend();
        statute();
        holds();
        judgeNumbers();
        verdictAndLeft();
        luckAndStrike();
        knownAndHeard();
        kindsAndTest();
        as();
        ways();
        says();
        odds();
        ask();
        cough();
        learn();
        adjourn();
        find();
        bench();
        see();
        forget();
        assizes();
        image();
        restore();
        count();
        digest();
        refusals();
        end();
    }

    // ---- how a test is told

    /** Begins the test of one sentence of a promise. */
    private static void sentence(int promise, String words) {
        if (checks == 0) {
            fail("nothing was looked at");
        }
        test = "promise " + promise + ", '" + words + "'";
        testsOfPromise[promise]++;
        checks = 0;
    }

    private static void fail(String what) {
        wrong++;
        System.out.println(test + ": " + what);
    }

    private static void due(String call, long got, long want) {
        checks++;
        if (got != want) {
            fail(call + " answered " + got + ", due is " + want);
        }
    }

    private static void end() {
        sentence(1, "the end");
        for (int promise = 1; promise <= PROMISES; promise++) {
            due("promise " + promise + " has a test", testsOfPromise[promise] > 0 ? 1 : 0, 1);
        }
        System.out.println(wrong == 0 ? "all boundaries are as due" : wrong + " answers are not as due");
        if (wrong != 0) {
            System.exit(1);
        }
    }

    private static AccusedAsks write(AccusedAsks x, String text) {
        for (int i = 0; i < text.length(); i++) {
            due("letter " + i + " of " + text, x.letter(text.charAt(i)) > 0 ? 1 : 0, 1);
        }
        return x;
    }

    private static AccusedAsks page(String text) {
        return write(new AccusedAsks(), text);
    }

    private static AccusedAsks courtOf(String text) {
        AccusedAsks x = page(text);
        due("court() of " + text, x.court(), text.indexOf(';') / 8 + 1);
        return x;
    }

    private static AccusedAsks amended(AccusedAsks x, String law) {
        due("amend() of " + law, write(x, law).amend() >= 0 ? 1 : 0, 1);
        return x;
    }

    /** A court of one honest judge of whom nothing is known, under a law of up to 56 letters. */
    private static AccusedAsks underLaw(String law) {
        return amended(courtOf("j??????;a"), law);
    }

    // ---- promise 1

    private static void newObject() {
        sentence(1, "No COURT: whatever needs one is refused");
        AccusedAsks x = new AccusedAsks();
        due("statute(0)", x.statute(0), STATE);
        due("holds(0)", x.holds(0), STATE);
        due("bench()", x.bench(), STATE);
        due("assizes(1, 0, 0)", x.assizes(1, 0, 0), STATE);
        due("image()", x.image(), STATE);
        due("restore()", x.restore(), STATE);
        due("amend() of a law", page("a").amend(), STATE);

        sentence(1, "No COURT: no number names a JUDGE");
        for (int judge : new int[] {MIN, -1, 0, 1, 2, 3, MAX}) {
            due("judge(" + judge + ", 0)", x.judge(judge, 0), UNKNOWN);
            due("as(" + judge + ", 0)", x.as(judge, 0), UNKNOWN);
            due("ways(" + judge + ")", x.ways(judge), UNKNOWN);
            due("says(" + judge + ", 0)", x.says(judge, 0), UNKNOWN);
            due("odds(" + judge + ", 0)", x.odds(judge, 0), UNKNOWN);
            due("ask(" + judge + ", 0, 0)", x.ask(judge, 0, 0), UNKNOWN);
            due("learn(" + judge + ", 0, 0)", x.learn(judge, 0, 0), UNKNOWN);
            due("adjourn(" + judge + ")", x.adjourn(judge), UNKNOWN);
            due("find(" + judge + ", 1, 0)", x.find(judge, 1, 0), UNKNOWN);
            due("see(" + judge + ", 0, 0, 0)", x.see(judge, 0, 0, 0), UNKNOWN);
        }

        sentence(1, "No COURT: nothing is there to be counted");
        for (int what = 0; what <= 11; what++) {
            due("count(" + what + ")", x.count(what), 0);
        }
        due("fault()", x.fault(), 0);
        due("lawFault()", x.lawFault(), 0);
        due("blank()", x.blank(), 0);
        due("forget()", x.forget(), 0);
        due("court()", x.court(), STATE);

        sentence(1, "A new object shares nothing with another one");
        AccusedAsks other = courtOf("j??????;a");
        due("the other's judges", other.count(0), 1);
        due("a new one's judges", new AccusedAsks().count(0), 0);
        due("the old one's judges", x.count(0), 0);
    }

    // ---- promises 2 and 3

    private static void letter() {
        sentence(2, "A letter comes behind THE PAGE, by its code: how many THE PAGE has");
        AccusedAsks x = new AccusedAsks();
        for (int i = 1; i <= PAGE; i++) {
            due("letter " + i, x.letter(1 + i * 2), i);
            due("count(9)", x.count(9), i);
        }
        due("in its order", page("s1").fault(), 2);
        due("in another order", page("1s").fault(), 0);

        sentence(2, "OUTSIDE: code (1 to 126)");
        for (int code = 1; code <= 126; code++) {
            due("letter(" + code + ")", new AccusedAsks().letter(code), 1);
        }
        x = new AccusedAsks();
        for (int code : new int[] {MIN, MIN + 97, -97, -2, -1, 0, 127, 128, 255, 256, 256 + 97, 65536 + 97, MAX}) {
            due("letter(" + code + ")", x.letter(code), OUTSIDE);
        }
        due("THE PAGE is empty yet", x.count(9), 0);

        sentence(2, "FULL: above 56");
        x = page("a".repeat(PAGE - 1));
        due("letter 56", x.letter('b'), PAGE);
        long full = x.digest();
        due("letter 57", x.letter('c'), FULL);
        due("letter 57 again", x.letter('a'), FULL);
        due("THE PAGE is as it was", x.digest(), full);

        sentence(2, "of several refusals OUTSIDE is ahead of FULL");
        due("letter(0) on a full page", x.letter(0), OUTSIDE);
        due("letter(127) on a full page", x.letter(127), OUTSIDE);
    }

    private static void blank() {
        sentence(3, "how many letters it had: of an empty page, of one letter, of a full one");
        due("empty", new AccusedAsks().blank(), 0);
        due("one", page("a").blank(), 1);
        AccusedAsks x = page("a".repeat(PAGE));
        due("full", x.blank(), PAGE);

        sentence(3, "THE PAGE is empty");
        due("count(9)", x.count(9), 0);
        due("blank() again", x.blank(), 0);
        due("fault()", x.fault(), 0);
        due("lawFault()", x.lawFault(), 0);
        due("there is room again", x.letter('a'), 1);
        due("for a law of its own", x.lawFault(), 1);

        sentence(3, "THE PAGE alone: a COURT stays");
        x = courtOf("j1?????;a");
        long before = x.digest();
        write(x, "xyz");
        due("blank()", x.blank(), 3);
        due("all is as before", x.digest(), before);
    }

    // ---- promises 4 and 7

    /** Behind this text each letter of all that there are is tried: these alone can stand there. */
    private static void follow(String text, String fitting, ToLongFunction<AccusedAsks> faultOf) {
        for (int code = 1; code <= 126; code++) {
            AccusedAsks x = page(text);
            x.letter(code);
            boolean fits = fitting.indexOf(code) >= 0;
            due(text + " and " + (char) code, faultOf.applyAsLong(x), text.length() + (fits ? 1 : 0));
        }
    }

    private static void faultOf(String text, int want) {
        due("fault() of " + text, page(text).fault(), want);
    }

    private static void fault() {
        sentence(4, "how many letters it has, if there is none: of an empty page");
        faultOf("", 0);

        sentence(4, "how many letters it has, if there is none: of a COURT, and of what begins one");
        String whole = "p1?????,v?????0,c0101??;3[a,b|!c,(d)]&!!e";
        for (int length = 0; length <= whole.length(); length++) {
            faultOf(whole.substring(0, length), length);
        }

        sentence(4, "the first letter of THE PAGE that no COURT has there: KINDS");
        follow("", KIND_LETTERS, AccusedAsks::fault);
        follow("j??????,", KIND_LETTERS, AccusedAsks::fault);
        follow("j??????,s??????,", KIND_LETTERS, AccusedAsks::fault);

        sentence(4, "the first letter of THE PAGE that no COURT has there: six signs");
        for (int signs = 0; signs < 6; signs++) {
            follow("v" + "?".repeat(signs), "01?", AccusedAsks::fault);
        }

        sentence(4, "the first letter of THE PAGE that no COURT has there: one to three JUDGES");
        follow("j??????", ",;", AccusedAsks::fault);
        follow("j??????,s111111", ",;", AccusedAsks::fault);
        follow("j??????,s111111,c000000", ";", AccusedAsks::fault);
        faultOf(";a", 0);
        faultOf("a", 0);

        sentence(4, "the first letter of THE PAGE that no COURT has there: THE LAW");
        follow("j??????;", PART, AccusedAsks::fault);
        follow("j??????,s??????,c??????;", PART, AccusedAsks::fault);
        follow("j??????;a", "&|", AccusedAsks::fault);
        follow("j??????;1[a", "&|,]", AccusedAsks::fault);
        follow("j??????;(a", "&|)", AccusedAsks::fault);

        sentence(4, "behind those ahead of it: the first of several counts");
        faultOf("x??????;a", 0);
        faultOf("j??x???;a;", 3);
        faultOf("j??????;g&&", 8);
        faultOf("j??????;a&&;", 10);

        sentence(4, "the last letter of a full page");
        String most = "j??????;" + "!".repeat(PAGE - 9);
        faultOf(most + "a", PAGE);
        faultOf(most + "!", PAGE);
        faultOf(most + "g", PAGE - 1);

        sentence(4, "it tells alone, and changes nothing");
        AccusedAsks x = page("j??????;a");
        due("fault()", x.fault(), 9);
        due("fault() again", x.fault(), 9);
        due("court()", x.court(), 1);
        write(x, "x");
        due("fault() beside a COURT", x.fault(), 0);
        due("its JUDGE", x.judge(0, 1), 64);
        due("the letter", x.count(9), 1);
    }

    private static void lawFaultOf(String text, int want) {
        due("lawFault() of " + text, page(text).lawFault(), want);
    }

    private static void lawFault() {
        sentence(7, "how many letters it has, if there is none: of an empty page");
        lawFaultOf("", 0);

        sentence(7, "how many letters it has, if there is none: of a LAW, and of what begins one");
        String whole = "3[a&!!(b|c),2[d,e,1[f]],(!f)]|!(a)";
        for (int length = 0; length <= whole.length(); length++) {
            lawFaultOf(whole.substring(0, length), length);
        }

        sentence(7, "the first letter that no LAW alone has there: where a PART begins");
        for (String text : new String[] {"", "!", "!!", "(", "((", "1[", "3[", "a&", "a|", "1[a,", "(a|", "1[a&"}) {
            follow(text, PART, AccusedAsks::lawFault);
        }

        sentence(7, "the first letter that no LAW alone has there: behind a PART");
        for (String text : new String[] {"a", "f", "!a", "(a)", "1[a]", "a&b", "a|b", "((a))", "2[a,(b)]"}) {
            follow(text, "&|", AccusedAsks::lawFault);
        }

        sentence(7, "the first letter that no LAW alone has there: behind a PART in '('");
        for (String text : new String[] {"(a", "((a", "((a)", "1[(a", "1[b,(a", "(1[a]"}) {
            follow(text, "&|)", AccusedAsks::lawFault);
        }

        sentence(7, "the first letter that no LAW alone has there: behind a PART in '['");
        for (String text : new String[] {"1[a", "2[a,b", "3[a,b,c,d", "(1[a", "1[(a)", "1[1[a]"}) {
            follow(text, "&|,]", AccusedAsks::lawFault);
        }

        sentence(7, "the first letter that no LAW alone has there: a digit (1 to 3), '['");
        for (String text : new String[] {"1", "2", "3", "!1", "a&2", "1[3"}) {
            follow(text, "[", AccusedAsks::lawFault);
        }

        sentence(7, "no JUDGES, no ';'");
        lawFaultOf("j??????;a", 0);
        lawFaultOf("c??????;a", 1);
        lawFaultOf(";a", 0);
        lawFaultOf("a;", 1);

        sentence(7, "behind those ahead of it: the first of several counts");
        lawFaultOf("gg", 0);
        lawFaultOf("a&&b]", 2);
        lawFaultOf("(a,b]", 2);

        sentence(7, "the last letter of a full page");
        lawFaultOf("(".repeat(PAGE), PAGE);
        lawFaultOf("1[".repeat(PAGE / 2), PAGE);
        lawFaultOf("!".repeat(PAGE - 1) + "f", PAGE);
        lawFaultOf("!".repeat(PAGE - 1) + "g", PAGE - 1);
        lawFaultOf("!" + "(".repeat(27) + "a" + ")".repeat(27), PAGE);
        lawFaultOf("(".repeat(27) + "a" + ")".repeat(28), PAGE - 1);

        sentence(7, "it tells alone, and changes nothing");
        AccusedAsks x = write(courtOf("j??????;b"), "a");
        due("lawFault()", x.lawFault(), 1);
        due("THE LAW is the old one", x.statute(1), 2);
        due("the letter", x.count(9), 1);
    }

    // ---- promise 5

    private static void court() {
        sentence(5, "how many JUDGES: one to three");
        due("one", page("j??????;a").court(), 1);
        due("two", page("j??????,s??????;a").court(), 2);
        due("three", page("j??????,s??????,c??????;a").court(), 3);

        sentence(5, "THE PAGE is empty then");
        AccusedAsks x = courtOf("j??????;a");
        due("count(9)", x.count(9), 0);
        due("fault()", x.fault(), 0);
        due("court() of an empty page", x.court(), STATE);
        due("there is room again", x.letter('a'), 1);

        sentence(5, "THE COURT that fills THE PAGE");
        x = courtOf("j??????,s??????,c??????;" + "!".repeat(31) + "a");
        due("an odd number of '!'", x.holds(0), 1);
        due("an odd number of '!'", x.holds(1), 0);
        due("count(0)", x.count(0), 3);

        sentence(5, "what is KNOWN: '1', '0', or '?' of the first FACT and of the last");
        x = courtOf("j1????0,j0????1,j??????;a");
        due("a of the first", x.judge(0, 20), 1);
        due("f of the first", x.judge(0, 25), 0);
        due("a of the second", x.judge(1, 20), 0);
        due("f of the second", x.judge(1, 25), 1);
        due("a of the third", x.judge(2, 20), NONE);
        due("f of the third", x.judge(2, 25), NONE);

        sentence(5, "STATE: it is none");
        String[] none = {"", "j", "j?????", "j??????", "j??????,", "j??????,s??????", "j??????;", ";a", "a",
            "j?????;a", "j???????;a", "j?2????;a", "J??????;a", "j??????,;a", ",j??????;a", "j??????;;a",
            "j??????,s??????,c??????,p??????;a", "j??????;a;", "j??????;a,", "j??????;a,b", "j??????;g",
            "j??????;a&", "j??????;|a", "j??????;(a", "j??????;a)", "j??????;1[a", "j??????;1[]",
            "j??????;1[a,]", "j??????;0[a]", "j??????;4[a]", "j??????;2", "j??????;!", "j??????;()", " j??????;a"};
        for (String text : none) {
            x = page(text);
            due("court() of " + text, x.court(), STATE);
            due("the letters of " + text + " stay", x.count(9), text.length());
            due("no COURT by " + text, x.count(0), 0);
            due("none was read by " + text, x.count(10), 0);
        }

        sentence(5, "STATE: the COURT of before stays, and its IMAGE, too");
        x = courtOf("c1?????,j??????;a&b");
        x.ask(0, 0, 1);
        x.see(0, 0, 0, 1);
        x.image();
        x.ask(0, 0, 1);
        long before = x.digest();
        due("court() of an empty page", x.court(), STATE);
        due("all is as before", x.digest(), before);
        due("court() of half a COURT", write(x, "j??????;(a").court(), STATE);
        due("blank()", x.blank(), 10);
        due("all is as before", x.digest(), before);
        due("restore()", x.restore(), 1);
    }

    /** Whatever was read before, a LAW is read from its own letters alone. */
    private static final String[] HALF_LAWS = {"!", "a&!", "1", "3", "!2", "(", "1[", "!(", "!1[a,", "1[a,b,c", "3[a,b,c,",
        "((((a|", "a|b&", "1[2[3[", "a)", "!!", "(a|!a", "a]"};

    private static void lawIsFresh(AccusedAsks x, String behind) {
        int[] want = {48, 15, 4, 1, 1, 2};
        for (int what = 0; what < want.length; what++) {
            due("statute(" + what + ") behind " + behind, x.statute(what), want[what]);
        }
        due("d alone is so, behind " + behind, x.holds(8), 0);
        due("nothing is so, behind " + behind, x.holds(0), 1);
    }

    private static void courtReplaced() {
        sentence(5, "a COURT behind a page that was none");
        for (String half : HALF_LAWS) {
            AccusedAsks y = page("j??????,s??????;" + half);
            due("court() of " + half, y.court(), STATE);
            due("blank()", y.blank(), 16 + half.length());
            due("court()", write(y, "j??????;!d|2[a,b,(c)]").court(), 1);
            lawIsFresh(y, half);
        }

        sentence(5, "another one is gone, with all that was: JUDGES, KNOWN");
        AccusedAsks x = courtOf("v111111,s000000,c??????;a");
        due("court() again", write(x, "j??????;b").court(), 1);
        due("the second is gone", x.judge(1, 0), UNKNOWN);
        due("the third is gone", x.judge(2, 0), UNKNOWN);
        due("KIND", x.judge(0, 0), 0);
        due("KNOWN", x.count(7), 0);
        due("WAYS", x.ways(0), -1L);
        due("THE LAW", x.statute(1), 2);

        due("court() a third time", write(x, "j000000;b").court(), 1);
        for (int fact = 0; fact < 6; fact++) {
            due("KNOWN otherwise", x.judge(0, 20 + fact), 0);
        }
        due("WAYS", x.ways(0), 1L);

        sentence(5, "another one is gone, with all that was: HEARD, questions, COUGHS");
        x = courtOf("j??????,c??????;a");
        x.ask(0, 0, 1);
        x.ask(1, 0, 1);
        x.ask(1, 0, 1);
        due("questions of before", x.count(5), 3);
        due("court() again", write(x, "j??????,c??????;a").court(), 2);
        due("HEARD", x.count(6), 0);
        due("HEARD otherwise", x.ask(0, 1, 0), 32);
        due("HEARD on b", x.judge(0, 31), 0);
        due("court() a third time", write(x, "j??????,c??????;a").court(), 2);
        due("HEARD", x.count(6), 0);
        due("HEARD on a", x.judge(0, 30), NONE);
        due("WAYS", x.ways(0), -1L);
        due("questions", x.count(5), 0);
        due("he COUGHS", x.ask(1, 0, 1), COUGHED);

        sentence(5, "another one is gone, with all that was: SEEN");
        x = courtOf("j??????;a");
        x.see(0, 0, 1, 0);
        due("court() again", write(x, "j??????;a").court(), 1);
        due("SEEN", x.count(8), 0);
        due("KINDS", x.judge(0, 9), 31);

        sentence(5, "another one is gone, with all that was: amendments, the IMAGE");
        x = amended(courtOf("j??????;a"), "b");
        x.image();
        due("court() again", write(x, "j??????;a").court(), 1);
        due("amended", x.count(11), 0);
        due("THE LAW is that of the text", x.statute(1), 1);
        due("restore()", x.restore(), STATE);
        due("how often a COURT was read", x.count(10), 2);
    }

    // ---- promise 6

    private static void amend() {
        sentence(6, "in how many WORLDS it holds: in none, in one, in all but one, in all");
        AccusedAsks x = courtOf("j??????;a");
        due("in none", write(x, "a&!a").amend(), 0);
        due("in one", write(x, "a&b&c&d&e&f").amend(), 1);
        due("in all but one", write(x, "a|b|c|d|e|f").amend(), 63);
        due("in all", write(x, "a|!a").amend(), 64);

        sentence(6, "THE PAGE is empty then");
        due("count(9)", x.count(9), 0);
        due("an empty page is no LAW", x.amend(), STATE);

        sentence(6, "a LAW that fills THE PAGE");
        due("56 letters", write(x, "!".repeat(PAGE - 1) + "b").amend(), 32);
        due("an odd number of '!'", x.holds(0), 1);
        due("brackets", write(x, "!" + "(".repeat(27) + "c" + ")".repeat(27)).amend(), 32);
        due("its depth", x.statute(5), 27);

        sentence(6, "what was HEARD stays, and whatever is no LAW");
        x = courtOf("j1?????,c??????;a");
        x.ask(0, 5, 0);
        x.ask(1, 0, 1);
        x.see(0, 0, 1, 0);
        x.image();
        due("amend()", write(x, "b&c").amend(), 16);
        due("HEARD", x.judge(0, 35), 0);
        due("KNOWN", x.judge(0, 20), 1);
        due("questions", x.count(5), 2);
        due("SEEN", x.count(8), 1);
        due("COURTS read", x.count(10), 1);
        due("he has COUGHED", x.ask(1, 0, 1), 32);
        due("the IMAGE", x.restore(), 2);

        sentence(6, "a LAW behind a page that was none");
        for (String half : HALF_LAWS) {
            x = write(courtOf("j??????;a"), half);
            due("amend() by " + half, x.amend(), STATE);
            due("blank()", x.blank(), half.length());
            due("amend()", write(x, "!d|2[a,b,(c)]").amend(), 48);
            lawIsFresh(x, half);
        }

        sentence(6, "a LAW behind one that went before, in which more was counted");
        x = amended(courtOf("j??????;a"), "!3[((a)),!!b,1[c,d]]&!f");
        amended(x, "!d|2[a,b,(c)]");
        lawIsFresh(x, "another LAW");

        sentence(6, "STATE: no COURT");
        x = page("a");
        due("amend()", x.amend(), STATE);
        due("the letter stays", x.count(9), 1);

        sentence(6, "STATE: it is none (no JUDGES, no ';')");
        String[] none = {"", "j??????;a", ";a", "a;", "a&", "&a", "|", "a|", "(a", "a)", "()", "!", "1", "1[", "1[]",
            "1[a", "1[a,]", "a,b", "0[a]", "4[a]", "ab", "g", "A", " a"};
        for (String law : none) {
            x = courtOf("j??????;d");
            due("amend() by " + law, write(x, law).amend(), STATE);
            due("the letters of " + law + " stay", x.count(9), law.length());
            due("THE LAW of before stays", x.statute(1), 8);
            due("it was not amended", x.count(11), 0);
        }
    }

    // ---- promises 8 and 9

    private static void statuteOf(String law, int what, int want) {
        due("statute(" + what + ") of " + law, underLaw(law).statute(what), want);
    }

    private static void statute() {
        sentence(8, "0 in how many WORLDS it holds: in none, in all");
        statuteOf("a&!a", 0, 0);
        statuteOf("3[a,b]", 0, 0);
        statuteOf("a|!a", 0, 64);
        statuteOf("a&b&c&d&e&f", 0, 1);
        statuteOf("a|b|c|d|e|f", 0, 63);

        sentence(8, "at least so many of these: none too few, none too many");
        statuteOf("1[a]", 0, 32);
        statuteOf("2[a]", 0, 0);
        statuteOf("3[a,b,c]", 0, 8);
        statuteOf("3[a,b,c,d,e,f]", 0, 42);
        statuteOf("2[a,b,c,d,e,f]", 0, 57);
        statuteOf("1[a,b,c,d,e,f]", 0, 63);
        statuteOf("3[a,a,a]", 0, 32);

        sentence(8, "1 MATTERS, as bits: none, all, the first, the last");
        statuteOf("a&!a", 1, 0);
        statuteOf("a|!a", 1, 0);
        statuteOf("a&b|a&!b", 1, 1);
        statuteOf("f", 1, 32);
        statuteOf("a&b&c&d&e&f", 1, 63);
        statuteOf("a|b|c|d|e|f", 1, 63);

        sentence(8, "2 how many letters a to f it has: one, the most");
        statuteOf("a", 2, 1);
        statuteOf("f" + "|a".repeat(27), 2, 28);
        statuteOf("2[a,a,f]", 2, 3);

        sentence(8, "3 how many signs '!': none, the most");
        statuteOf("a", 3, 0);
        statuteOf("!".repeat(PAGE - 1) + "a", 3, 55);

        sentence(8, "4 how many digits: none, the most");
        statuteOf("a", 4, 0);
        statuteOf("1[".repeat(18) + "a" + "]".repeat(18), 4, 18);

        sentence(8, "5 how deep it is: not at all, open at once, at most");
        statuteOf("a", 5, 0);
        statuteOf("(a)&(b)&(c)", 5, 1);
        statuteOf("1[a]|1[b]", 5, 1);
        statuteOf("((a))&(b)", 5, 2);
        statuteOf("(a)&((b))", 5, 2);
        statuteOf("(1[(a)])", 5, 3);
        statuteOf("(".repeat(27) + "a" + ")".repeat(27), 5, 27);
        statuteOf("1[".repeat(18) + "a" + "]".repeat(18), 5, 18);

        sentence(8, "OUTSIDE");
        AccusedAsks x = courtOf("j??????;a");
        for (int what : new int[] {MIN, -2, -1, 6, 7, 64, MAX}) {
            due("statute(" + what + ")", x.statute(what), OUTSIDE);
        }
        due("statute(0)", x.statute(0), 32);
        due("statute(5)", x.statute(5), 0);

        sentence(8, "STATE: no COURT");
        for (int what = 0; what <= 5; what++) {
            due("statute(" + what + ")", new AccusedAsks().statute(what), STATE);
        }

        sentence(8, "of several refusals OUTSIDE is ahead of STATE");
        due("statute(-1)", new AccusedAsks().statute(-1), OUTSIDE);
        due("statute(6)", new AccusedAsks().statute(6), OUTSIDE);
    }

    private static void holdsWhere(String law, IntPredicate where) {
        AccusedAsks x = underLaw(law);
        for (int world = 0; world < 64; world++) {
            due("holds(" + world + ") of " + law, x.holds(world), where.test(world) ? 1 : 0);
        }
    }

    private static void holds() {
        sentence(9, "OUTSIDE: world (0 to 63)");
        AccusedAsks x = courtOf("j??????;a&f");
        for (int world : new int[] {MIN, -64, -1, 64, 65, 128, MAX}) {
            due("holds(" + world + ")", x.holds(world), OUTSIDE);
        }
        due("holds(0)", x.holds(0), 0);
        due("holds(63)", x.holds(63), 1);
        for (int world = 0; world < 64; world++) {
            due("holds(" + world + ")", x.holds(world), (world & 33) == 33 ? 1 : 0);
        }

        sentence(9, "in each WORLD: '!' is of one PART alone, '&' ahead of '|', at least so many");
        holdsWhere("!a&b", world -> (world & 3) == 2);
        holdsWhere("!(a|b)&c", world -> (world & 7) == 4);
        holdsWhere("!(!a&b)|c", world -> (world & 3) != 2 || (world & 4) != 0);
        holdsWhere("a|b&!c", world -> (world & 1) != 0 || (world & 6) == 2);
        holdsWhere("!1[a,b]&!!f", world -> (world & 3) == 0 && (world & 32) != 0);
        holdsWhere("3[a,b,c]|3[d,e,f]", world -> (world & 7) == 7 || (world & 56) == 56);
        holdsWhere("3[a,b,c]&3[d,e,f]", world -> world == 63);
        holdsWhere("2[a,b,c]&2[d,e,f]", world -> Integer.bitCount(world & 7) > 1 && Integer.bitCount(world & 56) > 1);

        sentence(9, "by a JUDGE who SAYS all as it is, whatever the JUDGES are");
        x = courtOf("p??????,v??????,s??????;a&!f");
        due("holds(1)", x.holds(1), 1);
        due("holds(0)", x.holds(0), 0);
        due("holds(33)", x.holds(33), 0);

        sentence(9, "STATE: no COURT");
        due("holds(0)", new AccusedAsks().holds(0), STATE);
        due("holds(63)", new AccusedAsks().holds(63), STATE);

        sentence(9, "of several refusals OUTSIDE is ahead of STATE");
        due("holds(-1)", new AccusedAsks().holds(-1), OUTSIDE);
        due("holds(64)", new AccusedAsks().holds(64), OUTSIDE);
    }

    // ---- promise 10

    private static boolean judgeTells(int what) {
        return (what >= 0 && what <= 10) || (what >= 20 && what <= 25) || (what >= 30 && what <= 35);
    }

    private static void judgeNumbers() {
        sentence(10, "UNKNOWN: a number that names no JUDGE");
        AccusedAsks one = courtOf("j??????;a");
        AccusedAsks three = courtOf("j??????,s??????,c??????;a");
        for (int judge : new int[] {MIN, -1, 1, 2, 3, MAX}) {
            due("judge(" + judge + ", 0) of one", one.judge(judge, 0), UNKNOWN);
        }
        for (int judge : new int[] {MIN, -1, 3, 4, MAX}) {
            due("judge(" + judge + ", 0) of three", three.judge(judge, 0), UNKNOWN);
        }
        due("the first", three.judge(0, 0), 0);
        due("the last", three.judge(2, 0), 2);

        sentence(10, "OUTSIDE: what tells nothing");
        for (int what = -40; what <= 80; what++) {
            due("judge(0, " + what + ")", one.judge(0, what) == OUTSIDE ? 1 : 0, judgeTells(what) ? 0 : 1);
        }
        due("judge(0, MIN)", one.judge(0, MIN), OUTSIDE);
        due("judge(0, MAX)", one.judge(0, MAX), OUTSIDE);

        sentence(10, "of several refusals UNKNOWN is ahead of OUTSIDE");
        due("judge(1, 11)", one.judge(1, 11), UNKNOWN);
        due("judge(-1, -1)", one.judge(-1, -1), UNKNOWN);

        sentence(10, "0 KIND: the first and the last");
        due("j", courtOf("j??????;a").judge(0, 0), 0);
        due("v", courtOf("v??????;a").judge(0, 0), 4);

        sentence(10, "1 how many WAYS: one at the fewest, 64 at most");
        due("all is KNOWN", courtOf("j010101;a").judge(0, 1), 1);
        due("nothing is KNOWN", one.judge(0, 1), 64);

        sentence(10, "2 in how many of these he FREES: none, all");
        due("none", courtOf("j??????;a&!a").judge(0, 2), 0);
        due("all", courtOf("j??????;a|!a").judge(0, 2), 64);
    }

    private static void verdictOf(String court, int want) {
        due("the VERDICT of " + court, courtOf(court).judge(0, 3), want);
    }

    private static void leftOf(String court, int few, int first) {
        AccusedAsks x = courtOf(court);
        due("LEFT of " + court, x.judge(0, 4), few);
        due("first of " + court, x.judge(0, 5), first);
    }

    private static void verdictAndLeft() {
        sentence(10, "1 FREE, if he FREES in all of his WAYS; 2 HANGED, if in none; 0 OPEN, if in some");
        verdictOf("j??????;a|!a", 1);
        verdictOf("j??????;a&!a", 2);
        verdictOf("j??????;a&b&c&d&e&f", 0);
        verdictOf("j??????;a|b|c|d|e|f", 0);
        verdictOf("j111111;a", 1);
        verdictOf("j011111;a", 2);

        sentence(10, "LEFT: which FACT first: none, if it is not OPEN");
        leftOf("j1?????;a", 0, NONE);
        leftOf("j0?????;a", 0, NONE);
        leftOf("p??????;!a", 0, NONE);
        leftOf("p??????;a", 0, NONE);
        leftOf("j??????;a|!a", 0, NONE);

        sentence(10, "LEFT: one at the fewest, six at most");
        leftOf("j??????;f", 1, 5);
        leftOf("j??????;a&b&c&d&e&f", 6, 0);

        sentence(10, "LEFT: which FACT first: of like ones the least");
        leftOf("j??????;e&f", 2, 4);
        leftOf("j??????;f|e|b", 3, 1);
        leftOf("j??????;d&a|!d&b", 2, 3);

        sentence(10, "LEFT: each about a FACT that was not HEARD of yet");
        AccusedAsks x = courtOf("j??????;a&b&c&d&e&f");
        for (int fact = 0; fact < 6; fact++) {
            due("LEFT", x.judge(0, 4), 6 - fact);
            due("first", x.judge(0, 5), fact);
            x.ask(0, fact, 1);
        }
        due("LEFT of none", x.judge(0, 4), 0);
        due("no first one", x.judge(0, 5), NONE);

        sentence(10, "LEFT: no COUGH any more");
        leftOf("c??????;a", 1, 0);
    }

    private static void luckOf(String court, int want) {
        due("LUCK of " + court, courtOf(court).judge(0, 6), want);
    }

    private static void strikeOf(String court, int want) {
        due("STRIKE of " + court, courtOf(court).judge(0, 8), want);
    }

    private static void luckAndStrike() {
        sentence(10, "LUCK: 0, if it is so");
        luckOf("j??????;a|!a", 0);
        luckOf("j1?????;a", 0);
        luckOf("v??????;f", 0);

        sentence(10, "LUCK: none, if it cannot be");
        luckOf("j??????;a&!a", NONE);
        luckOf("j0?????;a", NONE);
        luckOf("p??????;a&d", NONE);
        luckOf("s??????;!f", NONE);

        sentence(10, "LUCK: one at the fewest, six at most");
        luckOf("j??????;a|b&c&d&e&f", 1);
        luckOf("j??????;a&b&c&d&e&f", 6);
        luckOf("c??????;f", 1);

        sentence(10, "STRIKE: none, if by none in more than now");
        strikeOf("j??????;a", NONE);
        strikeOf("j??????;a|!a", NONE);
        strikeOf("j??????;a&!a", NONE);
        strikeOf("j0?????;!a", NONE);
        strikeOf("v??????;!a", NONE);

        sentence(10, "STRIKE: of like ones the least");
        strikeOf("j??????;!a&!f", 0);
        strikeOf("j??????;!e&!f", 4);
        strikeOf("j??????;!f", 5);

        sentence(10, "STRIKE: in most of his WAYS, not the first that helps");
        strikeOf("j??????;(!a|b)&!f", 5);
        strikeOf("s??????;!d", 3);
    }

    private static void knownAndHeard() {
        sentence(10, "7 how many FACTS were HEARD: none, all six");
        AccusedAsks x = courtOf("j??????;a");
        due("none", x.judge(0, 7), 0);
        for (int fact = 0; fact < 6; fact++) {
            x.ask(0, fact, fact % 2);
            due("then", x.judge(0, 7), fact + 1);
        }

        sentence(10, "30 to 35 what was HEARD on it (NONE: nothing)");
        AccusedAsks y = courtOf("j??????;a");
        for (int fact = 0; fact < 6; fact++) {
            due("nothing on " + fact, y.judge(0, 30 + fact), NONE);
            due("HEARD on " + fact, x.judge(0, 30 + fact), fact % 2);
            due("it is not KNOWN by that", x.judge(0, 20 + fact), NONE);
        }

        sentence(10, "20 to 25 what is KNOWN of FACT a to f (NONE: it is not)");
        x = courtOf("j010101,j101010,j??????;a");
        for (int fact = 0; fact < 6; fact++) {
            due("KNOWN of " + fact, x.judge(0, 20 + fact), fact % 2);
            due("KNOWN of " + fact, x.judge(1, 20 + fact), 1 - fact % 2);
            due("not KNOWN of " + fact, x.judge(2, 20 + fact), NONE);
            due("nothing is HEARD by that", x.judge(0, 30 + fact), NONE);
        }
    }

    private static int kindsSaying(int fact, int is, int said) {
        int silent = fact >= 3 ? 1 : is;
        int proud = fact <= 2 ? 0 : is;
        int vain = fact == 5 ? 1 : proud;
        int[] answers = {is, silent, is, proud, vain};
        int kinds = 0;
        for (int kind = 0; kind < 5; kind++) {
            kinds += answers[kind] == said ? 1 << kind : 0;
        }
        return kinds;
    }

    private static void kindsAndTest() {
        sentence(10, "9 KINDS, as bits: all, if nothing is SEEN");
        AccusedAsks x = courtOf("j??????,v??????;a");
        due("KINDS", x.judge(0, 9), 31);
        due("KINDS of the other, whatever he is", x.judge(1, 9), 31);

        sentence(10, "9 KINDS, as bits: those that SAY so, of each FACT, so or not, SAID or not");
        for (int one = 0; one < 24; one++) {
            AccusedAsks y = courtOf("j??????;a");
            int fact = one / 4;
            int is = one / 2 % 2;
            due("see()", y.see(0, fact, is, one % 2), 1);
            due("KINDS by " + one, y.judge(0, 9), kindsSaying(fact, is, one % 2));
        }

        sentence(10, "9 KINDS, as bits: none is left");
        x.see(0, 0, 0, 1);
        due("no KIND", x.judge(0, 9), 0);

        sentence(10, "10 TEST: none, if there are none");
        due("no TEST", x.judge(0, 10), NONE);
        due("the other's", x.judge(1, 10), 1);

        sentence(10, "10 TEST: of like ones the least");
        x.forget();
        x.see(0, 0, 1, 1);
        x.see(0, 3, 0, 0);
        due("JUDGE or COUGH", x.judge(0, 9), 5);
        due("by none one knows", x.judge(0, 10), 0);
        x.see(1, 3, 0, 1);
        due("SILENT alone", x.judge(1, 9), 2);
        due("one is left whatever he says", x.judge(1, 10), 0);

        sentence(10, "10 TEST: 2 times it, and 1, if it is");
        x.forget();
        x.see(0, 0, 1, 1);
        due("JUDGE, SILENT or COUGH", x.judge(0, 9), 7);
        due("d, if it is not", x.judge(0, 10), 6);
        x.forget();
        due("a, if it is", x.judge(0, 10), 1);
        x.see(0, 0, 1, 0);
        due("PROUD or VAIN", x.judge(0, 9), 24);
        due("f, if it is not", x.judge(0, 10), 10);
        x.see(1, 5, 0, 1);
        due("SILENT or VAIN", x.judge(1, 9), 18);
        due("a, if it is", x.judge(1, 10), 1);
    }

    // ---- promises 11 to 14

    private static void as() {
        sentence(11, "his own number, not that of the KIND");
        AccusedAsks x = courtOf("v??????,v??????,v??????;a");
        for (int judge = 0; judge < 3; judge++) {
            due("as JUDGE", x.as(judge, 0), judge);
            due("as PROUD", x.as(judge, 3), judge);
            due("as VAIN", x.as(judge, 4), judge);
        }

        sentence(11, "NONE: he is none such (the cast fails)");
        due("VAIN as SILENT", x.as(0, 1), NONE);
        due("VAIN as COUGH", x.as(0, 2), NONE);
        x = courtOf("j??????,p??????,s??????;a");
        due("PROUD as VAIN", x.as(1, 4), NONE);
        for (int kind = 1; kind <= 4; kind++) {
            due("JUDGE as " + kind, x.as(0, kind), NONE);
        }

        sentence(11, "UNKNOWN");
        for (int judge : new int[] {MIN, -1, 3, MAX}) {
            due("as(" + judge + ", 0)", x.as(judge, 0), UNKNOWN);
        }

        sentence(11, "OUTSIDE");
        for (int kind : new int[] {MIN, -1, 5, MAX}) {
            due("as(0, " + kind + ")", x.as(0, kind), OUTSIDE);
        }

        sentence(11, "of several refusals UNKNOWN is ahead of OUTSIDE");
        due("as(3, 5)", x.as(3, 5), UNKNOWN);
        due("as(-1, -1)", x.as(-1, -1), UNKNOWN);
    }

    private static void ways() {
        sentence(12, "bit w for WORLD w: the first, the last, all");
        due("WORLD 0", courtOf("j000000;a").ways(0), 1L);
        due("WORLD 63", courtOf("j111111;a").ways(0), Long.MIN_VALUE);
        due("WORLDS 31 and 63", courtOf("j11111?;a").ways(0), 0x8000000080000000L);
        due("all", courtOf("j??????;a").ways(0), -1L);

        sentence(12, "UNKNOWN");
        AccusedAsks x = courtOf("j??????,s??????;a");
        for (int judge : new int[] {MIN, -1, 2, 3, MAX}) {
            due("ways(" + judge + ")", x.ways(judge), -101L);
        }
        due("ways(1)", x.ways(1), -1L);
    }

    private static void says() {
        sentence(13, "on all FACTS, as a WORLD: of each KIND in each");
        int[] kept = {63, 7, 63, 56, 24};
        int[] put = {0, 56, 0, 0, 32};
        for (int kind = 0; kind < 5; kind++) {
            AccusedAsks x = courtOf(KIND_LETTERS.charAt(kind) + "??????;a");
            for (int world = 0; world < 64; world++) {
                due("says(0, " + world + ") of " + kind, x.says(0, world), (world & kept[kind]) + put[kind]);
            }
        }

        sentence(13, "OUTSIDE: world (0 to 63)");
        AccusedAsks x = courtOf("j??????,p??????;a");
        for (int world : new int[] {MIN, -1, 64, 127, MAX}) {
            due("says(0, " + world + ")", x.says(0, world), OUTSIDE);
        }

        sentence(13, "UNKNOWN: judge");
        for (int judge : new int[] {MIN, -1, 2, 3, MAX}) {
            due("says(" + judge + ", 0)", x.says(judge, 0), UNKNOWN);
        }

        sentence(13, "of several refusals UNKNOWN is ahead of OUTSIDE");
        due("says(2, 64)", x.says(2, 64), UNKNOWN);

        sentence(13, "a WORLD that is none of his WAYS");
        due("says(0, 63)", courtOf("j000000;a").says(0, 63), 63);
    }

    private static void oddsOf(String court, int above, int below) {
        AccusedAsks x = courtOf(court);
        due("above of " + court, x.odds(0, 0), above);
        due("below of " + court, x.odds(0, 1), below);
    }

    private static void odds() {
        sentence(14, "in lowest terms (0 of 1)");
        oddsOf("j??????;a&!a", 0, 1);
        oddsOf("j000000;a", 0, 1);

        sentence(14, "in lowest terms: all of them are 1 of 1");
        oddsOf("j??????;a|!a", 1, 1);
        oddsOf("j111111;a", 1, 1);

        sentence(14, "in lowest terms: as they are, and divided");
        oddsOf("j??????;a&b&c&d&e&f", 1, 64);
        oddsOf("j??????;a|b|c|d|e|f", 63, 64);
        oddsOf("j??????;a", 1, 2);
        oddsOf("j??????;3[a,b,c,d]", 5, 16);
        oddsOf("j??????;a&b&c&(d|e)", 3, 32);
        oddsOf("j??????;a&b&(c|d|e|f)", 15, 64);

        sentence(14, "UNKNOWN");
        AccusedAsks x = courtOf("j??????;a");
        for (int judge : new int[] {MIN, -1, 1, MAX}) {
            due("odds(" + judge + ", 0)", x.odds(judge, 0), UNKNOWN);
        }

        sentence(14, "OUTSIDE");
        for (int what : new int[] {MIN, -1, 2, MAX}) {
            due("odds(0, " + what + ")", x.odds(0, what), OUTSIDE);
        }

        sentence(14, "of several refusals UNKNOWN is ahead of OUTSIDE");
        due("odds(1, 2)", x.odds(1, 2), UNKNOWN);
    }

    // ---- promises 15 to 17

    private static void ask() {
        sentence(15, "told: how many WAYS there are then: down to one");
        AccusedAsks x = courtOf("j??????;a");
        for (int fact = 0; fact < 6; fact++) {
            due("ask(0, " + fact + ", 1)", x.ask(0, fact, 1), 32 >> fact);
        }
        due("the WORLD that is left", x.ways(0), Long.MIN_VALUE);

        sentence(15, "STATE: it was HEARD already");
        for (int fact = 0; fact < 6; fact++) {
            due("again the same on " + fact, x.ask(0, fact, 1), STATE);
            due("again otherwise on " + fact, x.ask(0, fact, 0), STATE);
        }
        due("none was a question", x.count(5), 6);
        x = courtOf("p??????;a");
        due("what tells nothing", x.ask(0, 0, 0), 64);
        due("is HEARD all the same", x.ask(0, 0, 0), STATE);

        sentence(15, "STATE: in none of his WAYS he SAYS so");
        due("a is KNOWN", courtOf("j0?????;a").ask(0, 0, 1), STATE);
        due("f is KNOWN", courtOf("j?????1;a").ask(0, 5, 0), STATE);
        due("SILENT on d", courtOf("s???0??;a").ask(0, 3, 0), STATE);
        due("SILENT on f", courtOf("s?????0;a").ask(0, 5, 0), STATE);
        due("PROUD on a", courtOf("p1?????;a").ask(0, 0, 1), STATE);
        due("PROUD on c", courtOf("p??1???;a").ask(0, 2, 1), STATE);
        due("VAIN on c", courtOf("v??1???;a").ask(0, 2, 1), STATE);
        due("VAIN on f", courtOf("v?????0;a").ask(0, 5, 0), STATE);

        sentence(15, "it can be SAID: on the FACTS beside these");
        due("SILENT on c", courtOf("s??0???;a").ask(0, 2, 0), 32);
        due("SILENT on d", courtOf("s???0??;a").ask(0, 3, 1), 32);
        due("PROUD on d", courtOf("p???1??;a").ask(0, 3, 1), 32);
        due("PROUD on f", courtOf("p?????0;a").ask(0, 5, 0), 32);
        due("VAIN on d", courtOf("v???0??;a").ask(0, 3, 0), 32);
        due("VAIN on e", courtOf("v????0?;a").ask(0, 4, 0), 32);

        sentence(15, "UNKNOWN: judge, fact (0 to 5)");
        x = courtOf("j??????,s??????;a");
        for (int judge : new int[] {MIN, -1, 2, MAX}) {
            due("ask(" + judge + ", 0, 0)", x.ask(judge, 0, 0), UNKNOWN);
        }
        for (int fact : new int[] {MIN, -1, 6, 32, MAX}) {
            due("ask(0, " + fact + ", 0)", x.ask(0, fact, 0), UNKNOWN);
        }

        sentence(15, "OUTSIDE: said (0, 1)");
        for (int said : new int[] {MIN, -1, 2, 3, MAX}) {
            due("ask(0, 0, " + said + ")", x.ask(0, 0, said), OUTSIDE);
        }
        due("no question yet", x.count(5), 0);

        sentence(15, "of several refusals UNKNOWN is ahead of OUTSIDE, OUTSIDE ahead of STATE");
        due("ask(0, 0, 1)", x.ask(0, 0, 1), 32);
        due("ask(2, 0, 2)", x.ask(2, 0, 2), UNKNOWN);
        due("ask(0, 6, 2)", x.ask(0, 6, 2), UNKNOWN);
        due("ask(0, 0, 2)", x.ask(0, 0, 2), OUTSIDE);
    }

    private static void cough() {
        sentence(15, "-2: he COUGHED, and nothing is HEARD");
        AccusedAsks x = courtOf("c??????;a");
        due("the first", x.ask(0, 0, 1), COUGHED);
        due("HEARD", x.judge(0, 7), 0);
        due("HEARD on a", x.judge(0, 30), NONE);
        due("WAYS", x.ways(0), -1L);

        sentence(15, "the first question of all alone; it can be asked again");
        due("again", x.ask(0, 0, 1), 32);
        due("another", x.ask(0, 1, 1), 16);
        x = courtOf("c??????;a");
        due("the first", x.ask(0, 0, 1), COUGHED);
        due("again, otherwise", x.ask(0, 0, 0), 32);

        sentence(15, "of these the first; then he may COUGH: a refused question is none");
        x = courtOf("c1?????;a");
        due("he cannot SAY so", x.ask(0, 0, 0), STATE);
        due("no FACT", x.ask(0, 6, 0), UNKNOWN);
        due("no answer", x.ask(0, 0, 2), OUTSIDE);
        due("no question", x.count(5), 0);
        due("he COUGHS yet", x.ask(0, 0, 1), COUGHED);
        due("one question", x.count(5), 1);

        sentence(15, "a COUGH each, and no other KIND");
        x = courtOf("c??????,c??????,j??????;a");
        due("the first COUGH", x.ask(0, 0, 1), COUGHED);
        due("the second COUGH", x.ask(1, 0, 1), COUGHED);
        due("no COUGH", x.ask(2, 0, 1), 32);
        due("SILENT", courtOf("s??????;a").ask(0, 0, 1), 32);
        due("PROUD", courtOf("p??????;a").ask(0, 3, 1), 32);
        due("VAIN", courtOf("v??????;a").ask(0, 3, 1), 32);
    }

    private static void learn() {
        sentence(16, "how many WAYS there are then: down to one");
        AccusedAsks x = courtOf("v??????;a");
        for (int fact = 0; fact < 6; fact++) {
            due("learn(0, " + fact + ", 0)", x.learn(0, fact, 0), 32 >> fact);
            due("it is KNOWN", x.judge(0, 20 + fact), 0);
        }
        due("the WORLD that is left", x.ways(0), 1L);
        due("no questions", x.count(5), 0);

        sentence(16, "STATE: it is KNOWN already");
        for (int fact = 0; fact < 6; fact++) {
            due("again the same of " + fact, x.learn(0, fact, 0), STATE);
            due("again otherwise of " + fact, x.learn(0, fact, 1), STATE);
        }
        x = courtOf("j1????0;a");
        due("by the text, a", x.learn(0, 0, 1), STATE);
        due("by the text, f", x.learn(0, 5, 0), STATE);
        due("by the text, f otherwise", x.learn(0, 5, 1), STATE);

        sentence(16, "STATE: in none of his WAYS it is so");
        x = courtOf("j??????;a");
        x.ask(0, 0, 1);
        x.ask(0, 5, 0);
        due("a was HEARD as so", x.learn(0, 0, 0), STATE);
        due("f was HEARD as not so", x.learn(0, 5, 1), STATE);
        due("nothing is KNOWN", x.count(7), 0);
        due("a, as HEARD", x.learn(0, 0, 1), 16);
        due("f, as HEARD", x.learn(0, 5, 0), 16);

        sentence(16, "what he SAYS whatever it is leaves both");
        x = courtOf("p??????,p??????;a");
        x.ask(0, 0, 0);
        x.ask(1, 0, 0);
        due("PROUD, so", x.learn(0, 0, 1), 32);
        due("PROUD, not so", x.learn(1, 0, 0), 32);

        sentence(16, "UNKNOWN: judge, fact");
        x = courtOf("j??????;a");
        for (int judge : new int[] {MIN, -1, 1, MAX}) {
            due("learn(" + judge + ", 0, 0)", x.learn(judge, 0, 0), UNKNOWN);
        }
        for (int fact : new int[] {MIN, -1, 6, 32, MAX}) {
            due("learn(0, " + fact + ", 0)", x.learn(0, fact, 0), UNKNOWN);
        }

        sentence(16, "OUTSIDE: is (0, 1)");
        for (int is : new int[] {MIN, -1, 2, 3, MAX}) {
            due("learn(0, 0, " + is + ")", x.learn(0, 0, is), OUTSIDE);
        }

        sentence(16, "of several refusals UNKNOWN is ahead of OUTSIDE, OUTSIDE ahead of STATE");
        due("learn(0, 0, 1)", x.learn(0, 0, 1), 32);
        due("learn(1, 0, 2)", x.learn(1, 0, 2), UNKNOWN);
        due("learn(0, 6, 2)", x.learn(0, 6, 2), UNKNOWN);
        due("learn(0, 0, 2)", x.learn(0, 0, 2), OUTSIDE);
    }

    private static void adjourn() {
        sentence(17, "how many FACTS were: none, all six");
        AccusedAsks x = courtOf("j??????,j??????;a");
        due("none", x.adjourn(0), 0);
        for (int fact = 0; fact < 6; fact++) {
            x.ask(0, fact, 1);
            x.ask(1, fact, 0);
        }
        due("all", x.adjourn(0), 6);
        due("none again", x.adjourn(0), 0);

        sentence(17, "All that was HEARD of a JUDGE is forgotten, of him alone");
        due("WAYS", x.ways(0), -1L);
        due("HEARD", x.judge(0, 7), 0);
        due("HEARD on a", x.judge(0, 30), NONE);
        due("HEARD on f", x.judge(0, 35), NONE);
        due("the other's", x.judge(1, 7), 6);
        due("questions there were", x.count(5), 12);
        due("he can SAY otherwise", x.ask(0, 0, 0), 32);
        due("HEARD otherwise", x.judge(0, 30), 0);

        sentence(17, "what is KNOWN, and what is SEEN, stay");
        x = courtOf("j1?????;a");
        x.learn(0, 1, 1);
        x.ask(0, 2, 1);
        x.see(0, 0, 1, 0);
        due("adjourn(0)", x.adjourn(0), 1);
        due("KNOWN", x.count(7), 2);
        due("SEEN", x.count(8), 1);

        sentence(17, "he COUGHS again, if he is one");
        x = courtOf("c??????,c??????,j??????;a");
        for (int judge = 0; judge < 3; judge++) {
            x.ask(judge, 0, 1);
        }
        due("only COUGHED: nothing was HEARD", x.adjourn(0), 0);
        due("he COUGHS again", x.ask(0, 0, 1), COUGHED);
        due("not a third time", x.ask(0, 0, 1), 32);
        due("the other has COUGHED", x.ask(1, 0, 1), 32);
        due("one that is none", x.adjourn(2), 1);
        due("he does not COUGH", x.ask(2, 0, 1), 32);

        sentence(17, "UNKNOWN");
        for (int judge : new int[] {MIN, -1, 3, MAX}) {
            due("adjourn(" + judge + ")", x.adjourn(judge), UNKNOWN);
        }
        due("all is HEARD yet", x.count(6), 3);
    }

    // ---- promises 18 and 19

    private static void findOf(String court, int many, int which, int how) {
        AccusedAsks x = courtOf(court);
        due("find(0, " + many + ", 0) of " + court, x.find(0, many, 0), which);
        due("find(0, " + many + ", 1) of " + court, x.find(0, many, 1), how);
    }

    private static void find() {
        sentence(18, "no more than so many");
        findOf("j??????;a&b&c", 1, 0, 0);
        findOf("j??????;a&b&c", 2, 0, 0);
        findOf("j??????;a&b&c", 3, 7, 8);
        findOf("j??????;d&e&f", 3, 56, 8);
        findOf("j??????;a&b&c&d", 3, 0, 0);

        sentence(18, "of like ones the fewest: none, if it is FREE or HANGED as it is");
        findOf("j??????;a|!a", 3, 0, 64);
        findOf("j??????;a&!a", 3, 0, 0);
        findOf("j??????;f", 3, 32, 32);
        findOf("v??????;f", 3, 0, 64);

        sentence(18, "of these the least");
        findOf("j??????;a|b|c|d|e|f", 1, 1, 32);
        findOf("j??????;e|f", 1, 16, 32);
        findOf("j??????;a&d|b&c", 2, 6, 16);

        sentence(18, "FACTS that are not KNOWN");
        findOf("j1?????;a&b|c", 1, 2, 16);
        findOf("j111111;a", 3, 0, 1);
        findOf("j011111;a", 3, 0, 0);

        sentence(18, "nor HEARD");
        AccusedAsks x = courtOf("j??????;a&b");
        x.ask(0, 0, 1);
        due("which", x.find(0, 3, 0), 2);
        due("in how many", x.find(0, 3, 1), 16);
        for (int fact = 1; fact < 6; fact++) {
            x.ask(0, fact, 1);
        }
        due("none is left", x.find(0, 3, 0), 0);
        due("in the one that is left", x.find(0, 3, 1), 1);

        sentence(18, "UNKNOWN: judge");
        x = courtOf("j??????,s??????;a");
        for (int judge : new int[] {MIN, -1, 2, MAX}) {
            due("find(" + judge + ", 1, 0)", x.find(judge, 1, 0), UNKNOWN);
        }

        sentence(18, "OUTSIDE: many (1 to 3)");
        for (int many : new int[] {MIN, -1, 0, 4, 5, MAX}) {
            due("find(0, " + many + ", 0)", x.find(0, many, 0), OUTSIDE);
            due("find(0, " + many + ", 1)", x.find(0, many, 1), OUTSIDE);
        }
        due("find(0, 1, 0)", x.find(0, 1, 0), 1);
        due("find(0, 3, 0)", x.find(0, 3, 0), 1);

        sentence(18, "OUTSIDE: what");
        for (int what : new int[] {MIN, -1, 2, 3, MAX}) {
            due("find(0, 1, " + what + ")", x.find(0, 1, what), OUTSIDE);
        }

        sentence(18, "of several refusals UNKNOWN is ahead of OUTSIDE");
        due("find(2, 0, 0)", x.find(2, 0, 0), UNKNOWN);
        due("find(2, 1, 2)", x.find(2, 1, 2), UNKNOWN);
    }

    private static void bench() {
        sentence(19, "STATE: no COURT");
        due("bench()", new AccusedAsks().bench(), STATE);

        sentence(19, "of one JUDGE alone");
        due("he FREES never", courtOf("j0?????;a").bench(), 0);
        due("he FREES always", courtOf("j1?????;a").bench(), 0);

        sentence(19, "of like ones the least");
        due("none FREES", courtOf("j0?????,p??????,j00????;a").bench(), 0);
        due("all FREE", courtOf("j1?????,c11????,s1?????;a").bench(), 0);
        due("two FREE", courtOf("j??????,j1?????,j11????;a").bench(), 1);
        due("the same share of fewer", courtOf("j????11,j??????,j?????1;a").bench(), 0);

        sentence(19, "greatest (as a share): the last, and of fewer WAYS");
        due("the last", courtOf("j0?????,j??????,j111111;a").bench(), 2);
        due("26 of 32 is more than 46 of 64", courtOf("j??????,j1?????;a&b|c|d&e").bench(), 1);
        due("1 of 1 is more than 63 of 64", courtOf("j??????,j11111?;a|b|c|d|e|f").bench(), 1);
        due("1 of 64 is more than 0 of 1", courtOf("j000000,j??????;a&b&c&d&e&f").bench(), 1);
    }

    // ---- promises 20 and 21

    private static void see() {
        sentence(20, "It is SEEN: how much is, up to 8");
        AccusedAsks x = courtOf("j??????,s??????,c??????;a");
        for (int i = 1; i <= 8; i++) {
            due("see " + i, x.see(i % 3, i % 6, 1, 1), i);
            due("count(8)", x.count(8), i);
        }

        sentence(20, "FULL");
        long full = x.digest();
        due("the ninth", x.see(0, 0, 1, 0), FULL);
        due("the ninth of another", x.see(2, 5, 0, 0), FULL);
        due("all is as before", x.digest(), full);
        due("count(8)", x.count(8), 8);

        sentence(20, "of several refusals UNKNOWN is ahead of OUTSIDE, OUTSIDE ahead of FULL");
        due("see(3, 0, 2, 0) when it is full", x.see(3, 0, 2, 0), UNKNOWN);
        due("see(0, 6, 0, 2) when it is full", x.see(0, 6, 0, 2), UNKNOWN);
        due("see(0, 0, 2, 0) when it is full", x.see(0, 0, 2, 0), OUTSIDE);
        due("see(0, 0, 0, 2) when it is full", x.see(0, 0, 0, 2), OUTSIDE);

        sentence(20, "the same SEEN again");
        x = courtOf("j??????;a");
        for (int i = 1; i <= 8; i++) {
            due("see " + i, x.see(0, 0, 1, 1), i);
        }
        due("the ninth", x.see(0, 0, 1, 1), FULL);

        sentence(20, "the eighth counts as the first does");
        x = courtOf("j??????,j??????;a");
        for (int i = 1; i <= 7; i++) {
            x.see(0, 0, 1, 1);
        }
        x.see(1, 5, 0, 1);
        due("KINDS by the eighth", x.judge(1, 9), 18);
        due("KINDS by the first", x.judge(0, 9), 7);

        sentence(20, "UNKNOWN: judge, fact");
        x = courtOf("j??????,s??????;a");
        for (int judge : new int[] {MIN, -1, 2, MAX}) {
            due("see(" + judge + ", 0, 0, 0)", x.see(judge, 0, 0, 0), UNKNOWN);
        }
        for (int fact : new int[] {MIN, -1, 6, 7, MAX}) {
            due("see(0, " + fact + ", 0, 0)", x.see(0, fact, 0, 0), UNKNOWN);
        }

        sentence(20, "OUTSIDE: is, said (0, 1)");
        for (int wild : new int[] {MIN, -1, 2, 3, MAX}) {
            due("see(0, 0, " + wild + ", 0)", x.see(0, 0, wild, 0), OUTSIDE);
            due("see(0, 0, 0, " + wild + ")", x.see(0, 0, 0, wild), OUTSIDE);
        }
        due("nothing is SEEN", x.count(8), 0);

        sentence(20, "the last FACT of the last JUDGE, of him alone");
        due("see(1, 5, 1, 0)", x.see(1, 5, 1, 0), 1);
        due("no KIND SAYS so", x.judge(1, 9), 0);
        due("the other", x.judge(0, 9), 31);

        sentence(20, "nothing is HEARD or KNOWN by what is SEEN");
        due("HEARD", x.count(6), 0);
        due("KNOWN", x.count(7), 0);
        due("questions", x.count(5), 0);
        due("WAYS", x.ways(1), -1L);
    }

    private static void forget() {
        sentence(21, "how much was: nothing, one, 8");
        due("no COURT", new AccusedAsks().forget(), 0);
        AccusedAsks x = courtOf("j??????;a");
        due("nothing", x.forget(), 0);
        x.see(0, 0, 1, 0);
        due("one", x.forget(), 1);
        for (int i = 1; i <= 8; i++) {
            x.see(0, 0, 1, 0);
        }
        due("8", x.forget(), 8);

        sentence(21, "Nothing is SEEN any more");
        due("count(8)", x.count(8), 0);
        due("forget() again", x.forget(), 0);
        due("KINDS", x.judge(0, 9), 31);
        due("TEST", x.judge(0, 10), 1);
        due("there is room again", x.see(0, 3, 0, 1), 1);
        due("and what was is gone", x.judge(0, 9), 2);

        sentence(21, "what was HEARD, and is KNOWN, stay");
        x.ask(0, 0, 1);
        x.learn(0, 1, 1);
        due("forget()", x.forget(), 1);
        due("HEARD", x.count(6), 1);
        due("KNOWN", x.count(7), 1);
    }

    // ---- promise 22

    private static int seedAfter(long seed, int draws) {
        BigInteger now = BigInteger.valueOf(seed);
        for (int i = 0; i < draws; i++) {
            now = now.multiply(BigInteger.valueOf(1103515245)).add(BigInteger.valueOf(12345))
                .mod(BigInteger.ONE.shiftLeft(31));
        }
        return now.intValueExact();
    }

    /** Of three all FACTS are KNOWN but for some; the draws go on through all times. */
    private static void worldsByHand(int seed) {
        String[] known = {"??????", "1?0??1", "0111?0"};
        AccusedAsks x = courtOf("j" + known[0] + ",c" + known[1] + ",j" + known[2] + ";a&b|!e");
        int sum = 0;
        int often = 0;
        int draws = 0;
        for (int i = 0; i < 20; i++) {
            String his = known[seedAfter(seed, ++draws) / 65536 % 3];
            int world = 0;
            for (int fact = 0; fact < 6; fact++) {
                char sign = his.charAt(fact);
                int is = sign == '?' ? seedAfter(seed, ++draws) / 65536 % 2 : sign - '0';
                world += is << fact;
            }
            sum += world;
            often += (world & 3) == 3 || (world & 16) == 0 ? 1 : 0;
        }
        due("how often by " + seed, x.assizes(20, seed, 0), often);
        due("all WORLDS by " + seed, x.assizes(20, seed, 1), sum);
        due("the SEED then by " + seed, x.assizes(20, seed, 2), seedAfter(seed, draws));
    }

    private static void assizes() {
        sentence(22, "OUTSIDE: times (1 to 60)");
        AccusedAsks x = courtOf("j111111;a");
        for (int times : new int[] {MIN, -1, 0, 61, 62, MAX}) {
            due("assizes(" + times + ", 0, 0)", x.assizes(times, 0, 0), OUTSIDE);
        }
        due("once", x.assizes(1, 0, 0), 1);
        due("60 times", x.assizes(60, 0, 0), 60);

        sentence(22, "OUTSIDE: seed (0 at least)");
        for (int seed : new int[] {MIN, -2, -1}) {
            due("assizes(1, " + seed + ", 2)", x.assizes(1, seed, 2), OUTSIDE);
        }
        due("0", x.assizes(1, 0, 2), 12345);
        due("the greatest", x.assizes(1, MAX, 2), seedAfter(MAX, 1));

        sentence(22, "OUTSIDE: what");
        for (int what : new int[] {MIN, -1, 3, 4, MAX}) {
            due("assizes(1, 0, " + what + ")", x.assizes(1, 0, what), OUTSIDE);
        }

        sentence(22, "STATE: no COURT");
        due("assizes(1, 0, 0)", new AccusedAsks().assizes(1, 0, 0), STATE);
        due("assizes(60, MAX, 2)", new AccusedAsks().assizes(60, MAX, 2), STATE);

        sentence(22, "of several refusals OUTSIDE is ahead of STATE");
        due("assizes(0, 0, 0)", new AccusedAsks().assizes(0, 0, 0), OUTSIDE);
        due("assizes(1, -1, 0)", new AccusedAsks().assizes(1, -1, 0), OUTSIDE);
        due("assizes(1, 0, 3)", new AccusedAsks().assizes(1, 0, 3), OUTSIDE);

        sentence(22, "1103515245 times it and 12345, its rest by 2 to the 31");
        for (int seed : new int[] {0, 1, 2, 65535, 65536, 1 << 30, MAX - 1, MAX}) {
            due("one draw from " + seed, x.assizes(1, seed, 2), seedAfter(seed, 1));
            due("60 draws from " + seed, x.assizes(60, seed, 2), seedAfter(seed, 60));
        }

        sentence(22, "a DRAW of how many there are, of one JUDGE, too; of each that is not KNOWN a DRAW");
        due("all is KNOWN", courtOf("j000000;a").assizes(7, 5, 2), seedAfter(5, 7));
        due("one is not", courtOf("j00000?;a").assizes(7, 5, 2), seedAfter(5, 14));
        due("nothing is KNOWN", courtOf("j??????;a").assizes(60, 5, 2), seedAfter(5, 420));

        sentence(22, "then that by 65536 (rounded down), its rest; in the order of FACTS a DRAW of 2 tells it");
        for (int seed : new int[] {0, 1, 65536, 123456789, MAX}) {
            worldsByHand(seed);
        }

        sentence(22, "all WORLDS that came so, in which he FREES or not, added up");
        due("none, at the least", courtOf("j000000;a").assizes(60, 9, 1), 0);
        due("60 times 63 at most", courtOf("j111111;!a").assizes(60, 9, 1), 3780);
        due("he FREES never", courtOf("j111111;!a").assizes(60, 9, 0), 0);
        due("as it is, not as he SAYS", courtOf("p111000;a").assizes(10, 9, 1), 70);
        due("he SAYS 0 all the same", courtOf("p111000;a").assizes(10, 9, 0), 0);
        int sum = courtOf("j??????;a&!a").assizes(60, 9, 1);
        due("by another LAW the same WORLDS", courtOf("j??????;a|!a").assizes(60, 9, 1), sum);

        sentence(22, "what was HEARD does not matter; nothing changes by it");
        x = courtOf("j??????,c??????;a");
        int often = x.assizes(60, 77, 0);
        int worlds = x.assizes(60, 77, 1);
        x.ask(0, 0, 0);
        x.ask(0, 1, 1);
        long before = x.digest();
        due("how often", x.assizes(60, 77, 0), often);
        due("all WORLDS", x.assizes(60, 77, 1), worlds);
        due("all is as before", x.digest(), before);
        due("nobody has COUGHED", x.ask(1, 0, 1), COUGHED);

        sentence(22, "the last JUDGE of three is drawn, too");
        x = courtOf("j000000,j000000,j111111;a");
        due("all WORLDS are his", x.assizes(60, 3, 1), 63 * x.assizes(60, 3, 0));
        due("he came", x.assizes(60, 3, 0) > 0 && x.assizes(60, 3, 0) < 60 ? 1 : 0, 1);
    }

    // ---- promises 23 and 24

    private static void image() {
        sentence(23, "STATE: no COURT");
        AccusedAsks x = new AccusedAsks();
        due("image()", x.image(), STATE);
        due("none is kept by that", x.restore(), STATE);

        sentence(23, "how many questions there were: none, COUGHED ones, too");
        x = courtOf("c??????;a");
        due("none", x.image(), 0);
        x.ask(0, 0, 1);
        due("one", x.image(), 1);
        x.ask(0, 0, 1);
        x.adjourn(0);
        due("two, though nothing is HEARD", x.image(), 2);

        sentence(23, "one; the latest");
        x = courtOf("j??????;a");
        x.ask(0, 0, 1);
        x.image();
        x.ask(0, 1, 1);
        due("another", x.image(), 2);
        x.ask(0, 2, 1);
        due("the latest", x.restore(), 2);
        due("HEARD", x.count(6), 2);

        sentence(23, "it is kept as it was, whatever comes");
        x = courtOf("j??????;a");
        x.image();
        x.ask(0, 0, 1);
        x.learn(0, 3, 1);
        x.see(0, 0, 1, 1);
        amended(x, "b");
        due("restore()", x.restore(), 0);
        due("HEARD", x.count(6), 0);
        due("KNOWN", x.count(7), 0);
        due("SEEN", x.count(8), 0);
        due("amended", x.count(11), 0);
    }

    private static void restore() {
        sentence(24, "STATE: none was kept");
        due("no COURT", new AccusedAsks().restore(), STATE);
        due("a COURT", courtOf("j??????;a").restore(), STATE);

        sentence(24, "STATE: there is another COURT since");
        AccusedAsks x = courtOf("j??????;a");
        x.image();
        due("the same text again", write(x, "j??????;a").court(), 1);
        long before = x.digest();
        due("restore()", x.restore(), STATE);
        due("all is as before", x.digest(), before);
        due("an IMAGE of its own", x.image(), 0);
        due("restore()", x.restore(), 0);
        due("how often a COURT was read", x.count(10), 2);

        sentence(24, "It goes on from the IMAGE: KNOWN");
        x = courtOf("j1?????;a");
        x.image();
        x.learn(0, 5, 0);
        x.restore();
        due("f", x.judge(0, 25), NONE);
        due("a", x.judge(0, 20), 1);
        due("f can be learnt again, otherwise", x.learn(0, 5, 1), 16);
        due("f", x.judge(0, 25), 1);
        x.restore();
        due("f can be learnt once more, otherwise", x.learn(0, 5, 0), 16);
        due("f", x.judge(0, 25), 0);

        sentence(24, "It goes on from the IMAGE: HEARD, how many questions there were");
        x = courtOf("j??????;a");
        x.ask(0, 0, 1);
        x.image();
        x.adjourn(0);
        x.ask(0, 0, 0);
        x.ask(0, 1, 0);
        due("restore()", x.restore(), 1);
        due("HEARD on a", x.judge(0, 30), 1);
        due("HEARD on b", x.judge(0, 31), NONE);
        due("questions", x.count(5), 1);
        x.ask(0, 1, 1);
        x.restore();
        due("b can be SAID otherwise", x.ask(0, 1, 0), 16);
        due("HEARD on b", x.judge(0, 31), 0);

        sentence(24, "It goes on from the IMAGE: whether each COUGHED");
        x = courtOf("c??????,c??????;a");
        x.ask(0, 0, 1);
        x.image();
        x.adjourn(0);
        x.ask(1, 0, 1);
        x.restore();
        due("he had", x.ask(0, 0, 1), 32);
        due("he had not", x.ask(1, 0, 1), COUGHED);

        sentence(24, "It goes on from the IMAGE: THE LAW, how often it was amended");
        x = amended(courtOf("j??????;a"), "!2[b,(c)]");
        x.image();
        amended(amended(x, "a&d"), "f");
        x.restore();
        int[] law = {48, 6, 2, 1, 1, 2};
        for (int what = 0; what < law.length; what++) {
            due("statute(" + what + ")", x.statute(what), law[what]);
        }
        due("amended", x.count(11), 1);

        sentence(24, "It goes on from the IMAGE: SEEN");
        x = courtOf("j??????;a");
        x.see(0, 0, 1, 0);
        x.image();
        x.forget();
        x.see(0, 0, 1, 1);
        x.see(0, 0, 1, 1);
        x.restore();
        due("how much", x.count(8), 1);
        due("KINDS", x.judge(0, 9), 24);

        sentence(24, "THE PAGE is not in it");
        x = write(courtOf("j??????;a"), "abc");
        x.image();
        x.blank();
        write(x, "z");
        x.restore();
        due("letters", x.count(9), 1);

        sentence(24, "the IMAGE stays, and can be gone on from again");
        x.ask(0, 0, 1);
        due("restore()", x.restore(), 0);
        x.ask(0, 0, 1);
        due("restore() again", x.restore(), 0);
        due("HEARD", x.count(6), 0);
    }

    // ---- promise 25

    private static void counts(AccusedAsks x, int... want) {
        for (int what = 0; what < want.length; what++) {
            due("count(" + what + ")", x.count(what), want[what]);
        }
    }

    private static void count() {
        sentence(25, "OUTSIDE");
        for (int what : new int[] {MIN, -2, -1, 12, 13, MAX}) {
            due("count(" + what + ")", new AccusedAsks().count(what), OUTSIDE);
            due("count(" + what + ") of a COURT", courtOf("j??????;a").count(what), OUTSIDE);
        }

        sentence(25, "0: no COURT");
        counts(new AccusedAsks(), 0, 0, 0, 0, 0, 0, 0, 0, 0, 0, 0, 0);

        sentence(25, "1 WORLDS in which THE LAW holds: in none, in all");
        due("in none", courtOf("j??????;a&!a").count(1), 0);
        due("in all", courtOf("j??????;a|!a").count(1), 64);

        sentence(25, "2 WAYS of all JUDGES, 3 FREE, 4 HANGED: of three, at most");
        counts(courtOf("j??????,s??????,v??????;a|!a"), 3, 64, 192, 3, 0, 0, 0, 0, 0, 0, 1, 0);
        counts(courtOf("j??????,s??????,v??????;a&!a"), 3, 0, 192, 0, 3, 0, 0, 0, 0, 0, 1, 0);

        sentence(25, "an OPEN one is neither FREE nor HANGED");
        counts(courtOf("j??????,j1?????,j0?????;a"), 3, 32, 128, 1, 1);
        counts(courtOf("j??????,j??????,j??????;a"), 3, 32, 192, 0, 0);

        sentence(25, "7 that are KNOWN, of all: all of three");
        counts(courtOf("j111111,s000000,v010101;a"), 3, 32, 3, 1, 2, 0, 0, 18, 0, 0, 1, 0);

        sentence(25, "5 questions, 6 FACTS that were HEARD, of all: all of three");
        AccusedAsks x = courtOf("j??????,j??????,j??????;a");
        for (int i = 0; i < 18; i++) {
            x.ask(i / 6, i % 6, 1);
        }
        counts(x, 3, 32, 3, 3, 0, 18, 18, 0, 0, 0, 1, 0);

        sentence(25, "5 questions (COUGHED ones, too), no refused ones");
        x = courtOf("c1?????;a");
        x.ask(0, 0, 0);
        x.ask(0, 6, 0);
        x.ask(0, 0, 2);
        due("none", x.count(5), 0);
        x.ask(0, 0, 1);
        due("a COUGHED one", x.count(5), 1);
        due("nothing is HEARD", x.count(6), 0);
        for (int i = 0; i < 240; i++) {
            x.ask(0, 0, 1);
            x.adjourn(0);
        }
        due("240 more", x.count(5), 241);

        sentence(25, "8 what is SEEN, 9 letters of THE PAGE: none, at most");
        x = courtOf("j??????;a");
        counts(x, 1, 32, 64, 0, 0, 0, 0, 0, 0, 0, 1, 0);
        for (int i = 0; i < 10; i++) {
            x.see(0, 0, 0, 0);
        }
        for (int i = 0; i < 60; i++) {
            x.letter('a');
        }
        counts(x, 1, 32, 64, 0, 0, 0, 0, 0, 8, 56, 1, 0);

        sentence(25, "10 how often a COURT was read, as often as 512 calls let it be");
        x = new AccusedAsks();
        for (int i = 1; i <= 51; i++) {
            due("court() " + i, write(x, "j??????;a").court(), 1);
        }
        due("count(10)", x.count(10), 51);

        sentence(25, "11 how often THE LAW was amended since, as often as 512 calls let it be");
        x = courtOf("j??????;a");
        for (int i = 1; i <= 250; i++) {
            due("amend() " + i, write(x, "b").amend(), 32);
        }
        due("count(11)", x.count(11), 250);
    }

    // ---- promise 26

    private static List<Long> numbersOf(AccusedAsks x, String letters) {
        List<Long> numbers = new ArrayList<>();
        for (int judge = 0; judge < x.count(0); judge++) {
            for (int what = 0; what <= 35; what++) {
                if (judgeTells(what)) {
                    numbers.add((long) x.judge(judge, what));
                }
            }
            numbers.add(x.ways(judge));
            numbers.add((long) x.odds(judge, 0));
            numbers.add((long) x.odds(judge, 1));
            numbers.add((long) x.find(judge, 2, 0));
            numbers.add((long) x.find(judge, 2, 1));
        }
        if (x.count(0) > 0) {
            for (int what = 0; what <= 5; what++) {
                numbers.add((long) x.statute(what));
            }
            numbers.add((long) x.bench());
        }
        for (char letter : letters.toCharArray()) {
            numbers.add((long) letter);
        }
        for (int what = 0; what <= 11; what++) {
            numbers.add((long) x.count(what));
        }
        return numbers;
    }

    /** Without any wrapping on the way: the whole sum, and then its lowest 64 bits. */
    private static long wrapped(List<Long> numbers) {
        BigInteger h = BigInteger.valueOf(1103);
        for (long number : numbers) {
            h = h.multiply(BigInteger.valueOf(31)).add(BigInteger.valueOf(number));
        }
        return h.longValue();
    }

    private static void digestOf(AccusedAsks x, String letters) {
        due("digest() with " + letters, x.digest(), wrapped(numbersOf(x, letters)));
    }

    private static void digest() {
        sentence(26, "of a new object: no JUDGE, no LAW, no letters");
        due("digest()", new AccusedAsks().digest(), wrapped(Arrays.asList(0L, 0L, 0L, 0L, 0L, 0L, 0L, 0L, 0L, 0L, 0L, 0L)));

        sentence(26, "with a COURT (all up to the next semicolon): without one, the letters alone");
        digestOf(page("x"), "x");
        due("digest()", page("x").digest(), wrapped(Arrays.asList(120L, 0L, 0L, 0L, 0L, 0L, 0L, 0L, 0L, 0L, 1L, 0L, 0L)));

        sentence(26, "as longs, wrapping: of one JUDGE, of three");
        digestOf(courtOf("j??????;a"), "");
        digestOf(courtOf("j111111,s000000,v??????;3[a,b|!c,(d)]"), "");
        AccusedAsks x = courtOf("c1?????,p??????,v?????0;2[a,!b,d&e]");
        x.ask(0, 0, 1);
        x.ask(1, 3, 0);
        x.learn(2, 4, 1);
        x.see(1, 0, 1, 0);
        digestOf(x, "");

        sentence(26, "BENCH that is not the first; what find() tells of 2, not of 1 or 3");
        x = courtOf("j000000,j??????;a&b|c&d&e");
        due("BENCH", x.bench(), 1);
        due("find() of 1", x.find(1, 1, 0), 0);
        due("find() of 2", x.find(1, 2, 0), 3);
        digestOf(x, "");

        sentence(26, "letters of THE PAGE: a full one, in their order");
        String full = "~" + (char) 1 + "a".repeat(53) + "b";
        digestOf(page(full), full);
        digestOf(write(courtOf("j??????;a"), full), full);
        due("another order tells another number", page("ab").digest() == page("ba").digest() ? 1 : 0, 0);

        sentence(26, "it tells alone, and changes nothing");
        due("again", x.digest(), x.digest());
        due("questions", x.count(5), 0);
    }

    // ---- Refusals change nothing, not even what no other call tells at once

    private static void refuses(int promise, Supplier<AccusedAsks> before, String call, int want,
            ToLongFunction<AccusedAsks> refused) {
        sentence(promise, "refusals change nothing");
        AccusedAsks x = before.get();
        due(call, refused.applyAsLong(x), want);
        List<Long> then = aftermath(x);
        List<Long> without = aftermath(before.get());
        due("all goes on as without " + call, then.equals(without) ? 1 : 0, 1);
    }

    /** What comes of an object by calls that bring out all that it keeps, its IMAGE, too. */
    private static List<Long> aftermath(AccusedAsks x) {
        List<Long> told = new ArrayList<>();
        told.add(x.digest());
        told.add((long) x.court());
        for (int judge = 0; judge < 3; judge++) {
            told.add((long) x.ask(judge, 4, 1));
        }
        told.add((long) x.amend());
        told.add(x.digest());
        told.add((long) x.restore());
        told.add(x.digest());
        for (int judge = 0; judge < 3; judge++) {
            told.add((long) x.ask(judge, 4, 1));
        }
        told.add((long) x.see(0, 0, 0, 0));
        told.add((long) x.blank());
        told.add(x.digest());
        return told;
    }

    /** Of two that COUGH one has; an IMAGE is kept of before; THE PAGE holds half a COURT. */
    private static AccusedAsks busy() {
        AccusedAsks x = courtOf("c??????,c1?????,v?????0;a&!b|f");
        x.ask(1, 0, 1);
        x.see(0, 0, 1, 0);
        x.image();
        x.ask(1, 0, 1);
        x.learn(2, 3, 1);
        x.ask(2, 3, 1);
        amended(x, "2[a,e,f]");
        for (int i = 0; i < 7; i++) {
            x.see(2, i % 6, 1, 1);
        }
        return write(x, "j?????");
    }

    private static AccusedAsks busyWithLaw() {
        AccusedAsks x = busy();
        x.blank();
        return write(x, "1[a");
    }

    private static AccusedAsks fullPage() {
        return write(busy(), "x".repeat(PAGE - 6));
    }

    private static AccusedAsks withoutCourt() {
        return page("a");
    }

    private static void refusals() {
        refuses(2, BoundaryTest::busy, "letter(0)", OUTSIDE, x -> x.letter(0));
        refuses(2, BoundaryTest::fullPage, "letter(97)", FULL, x -> x.letter(97));
        refuses(5, BoundaryTest::busy, "court()", STATE, AccusedAsks::court);
        refuses(5, BoundaryTest::busyWithLaw, "court()", STATE, AccusedAsks::court);
        refuses(5, BoundaryTest::withoutCourt, "court()", STATE, AccusedAsks::court);
        refuses(6, BoundaryTest::busyWithLaw, "amend()", STATE, AccusedAsks::amend);
        refuses(6, BoundaryTest::withoutCourt, "amend()", STATE, AccusedAsks::amend);
        refuses(8, BoundaryTest::busy, "statute(6)", OUTSIDE, x -> x.statute(6));
        refuses(8, BoundaryTest::withoutCourt, "statute(0)", STATE, x -> x.statute(0));
        refuses(9, BoundaryTest::busy, "holds(64)", OUTSIDE, x -> x.holds(64));
        refuses(9, BoundaryTest::withoutCourt, "holds(0)", STATE, x -> x.holds(0));
        refuses(10, BoundaryTest::busy, "judge(3, 0)", UNKNOWN, x -> x.judge(3, 0));
        refuses(10, BoundaryTest::busy, "judge(0, 11)", OUTSIDE, x -> x.judge(0, 11));
        refuses(11, BoundaryTest::busy, "as(3, 0)", UNKNOWN, x -> x.as(3, 0));
        refuses(11, BoundaryTest::busy, "as(0, 5)", OUTSIDE, x -> x.as(0, 5));
        refuses(11, BoundaryTest::busy, "as(0, 4)", NONE, x -> x.as(0, 4));
        refuses(12, BoundaryTest::busy, "ways(3)", UNKNOWN, x -> x.ways(3));
        refuses(13, BoundaryTest::busy, "says(3, 0)", UNKNOWN, x -> x.says(3, 0));
        refuses(13, BoundaryTest::busy, "says(0, 64)", OUTSIDE, x -> x.says(0, 64));
        refuses(14, BoundaryTest::busy, "odds(3, 0)", UNKNOWN, x -> x.odds(3, 0));
        refuses(14, BoundaryTest::busy, "odds(0, 2)", OUTSIDE, x -> x.odds(0, 2));
        refuses(15, BoundaryTest::busy, "ask(3, 0, 0)", UNKNOWN, x -> x.ask(3, 0, 0));
        refuses(15, BoundaryTest::busy, "ask(0, 6, 0)", UNKNOWN, x -> x.ask(0, 6, 0));
        refuses(15, BoundaryTest::busy, "ask(0, 0, 2)", OUTSIDE, x -> x.ask(0, 0, 2));
        refuses(15, BoundaryTest::busy, "ask(1, 0, 1)", STATE, x -> x.ask(1, 0, 1));
        refuses(15, BoundaryTest::busy, "ask(2, 5, 0)", STATE, x -> x.ask(2, 5, 0));
        refuses(15, () -> courtOf("c0?????,c??????,j??????;a"), "ask(0, 0, 1)", STATE, x -> x.ask(0, 0, 1));
        refuses(16, BoundaryTest::busy, "learn(3, 0, 0)", UNKNOWN, x -> x.learn(3, 0, 0));
        refuses(16, BoundaryTest::busy, "learn(0, 6, 0)", UNKNOWN, x -> x.learn(0, 6, 0));
        refuses(16, BoundaryTest::busy, "learn(0, 0, 2)", OUTSIDE, x -> x.learn(0, 0, 2));
        refuses(16, BoundaryTest::busy, "learn(1, 0, 1)", STATE, x -> x.learn(1, 0, 1));
        refuses(16, () -> {
            AccusedAsks x = courtOf("j??????;a");
            x.ask(0, 0, 0);
            return x;
        }, "learn(0, 0, 1)", STATE, x -> x.learn(0, 0, 1));
        refuses(17, BoundaryTest::busy, "adjourn(3)", UNKNOWN, x -> x.adjourn(3));
        refuses(17, BoundaryTest::busy, "adjourn(-1)", UNKNOWN, x -> x.adjourn(-1));
        refuses(18, BoundaryTest::busy, "find(3, 1, 0)", UNKNOWN, x -> x.find(3, 1, 0));
        refuses(18, BoundaryTest::busy, "find(0, 4, 0)", OUTSIDE, x -> x.find(0, 4, 0));
        refuses(19, BoundaryTest::withoutCourt, "bench()", STATE, AccusedAsks::bench);
        refuses(20, BoundaryTest::busy, "see(3, 0, 0, 0)", UNKNOWN, x -> x.see(3, 0, 0, 0));
        refuses(20, BoundaryTest::busy, "see(0, 0, 2, 0)", OUTSIDE, x -> x.see(0, 0, 2, 0));
        refuses(20, BoundaryTest::busy, "see(0, 0, 0, 0)", FULL, x -> x.see(0, 0, 0, 0));
        refuses(22, BoundaryTest::busy, "assizes(61, 0, 0)", OUTSIDE, x -> x.assizes(61, 0, 0));
        refuses(22, BoundaryTest::withoutCourt, "assizes(1, 0, 0)", STATE, x -> x.assizes(1, 0, 0));
        refuses(23, BoundaryTest::withoutCourt, "image()", STATE, AccusedAsks::image);
        refuses(24, BoundaryTest::withoutCourt, "restore()", STATE, AccusedAsks::restore);
        refuses(24, () -> courtOf("c??????;a"), "restore()", STATE, AccusedAsks::restore);
        refuses(25, BoundaryTest::busy, "count(12)", OUTSIDE, x -> x.count(12));
    }
}
