import java.util.ArrayList;
import java.util.List;
import java.util.Random;

/**
 * Runs of drawn calls, each answered by the class and by a model of the document that is written
 * as plainly as can be: a law is read anew from its text for every world, sets are lists, and what
 * is best is found by trying all.
 */
public final class ModelTest {
    private static final int RUNS = 500;
    /** An object is promised for 512 calls; the longest step of a run takes some 60. */
    private static final int CALLS = 512 - 70;

    private final Random random;
    private final AccusedAsks x = new AccusedAsks();
    private final Model m = new Model();
    private final StringBuilder history = new StringBuilder();
    private int calls = 0;
    private int wrong = 0;

    private ModelTest(long seed) {
        random = new Random(seed);
    }

    public static void main(String[] args) {
        int wrong = 0;
        for (int run = 0; run < RUNS && wrong == 0; run++) {
            ModelTest test = new ModelTest(run);
            test.run();
            wrong += test.wrong;
        }
        System.out.println(wrong == 0 ? "all answers are as due" : wrong + " answers are not as due");
        if (wrong != 0) {
            System.exit(1);
        }
    }

    private void due(String call, long got, long want) {
        calls++;
        history.append(call).append(" = ").append(want).append('\n');
        if (got != want && wrong == 0) {
            wrong++;
            System.out.println(history);
            System.out.println("the last answered " + got);
        }
    }

    private void run() {
        if (random.nextInt(10) > 0) {
            writeCourt();
        }
        while (calls < CALLS && wrong == 0) {
            oneCall(random.nextInt(100));
        }
    }

    private void oneCall(int draw) {
        if (draw < 1) {
            writeCourt();
        } else if (draw < 4) {
            writeAmendment();
        } else if (draw < 50) {
            change(random.nextInt(10));
        } else {
            look(random.nextInt(15));
        }
    }

    private void change(int draw) {
        int judge = aJudge();
        int fact = near(6);
        int one = near(2);
        int other = near(2);
        switch (draw) {
            case 0: case 1: case 2:
                due("ask(" + judge + ", " + fact + ", " + one + ")", x.ask(judge, fact, one), m.ask(judge, fact, one));
                break;
            case 3:
                due("learn(" + judge + ", " + fact + ", " + one + ")", x.learn(judge, fact, one), m.learn(judge, fact, one));
                break;
            case 4:
                due("adjourn(" + judge + ")", x.adjourn(judge), m.adjourn(judge));
                break;
            case 5: case 6:
                due("see(" + judge + ", " + fact + ", " + one + ", " + other + ")", x.see(judge, fact, one, other), m.see(judge, fact, one, other));
                break;
            case 7:
                due("count(8)", x.count(8), m.count(8));
                if (random.nextInt(3) == 0) {
                    due("forget()", x.forget(), m.forget());
                }
                break;
            case 8:
                due("image()", x.image(), m.image());
                break;
            default:
                due("restore()", x.restore(), m.restore());
        }
    }

    private void look(int draw) {
        int judge = aJudge();
        int a = near(64);
        int b = near(3);
        switch (draw) {
            case 0: {
                int what = near(6);
                due("statute(" + what + ")", x.statute(what), m.statute(what));
                break;
            }
            case 1: due("holds(" + a + ")", x.holds(a), m.holds(a)); break;
            case 2: case 3: case 4: case 5: {
                int what = near(11);
                due("judge(" + judge + ", " + what + ")", x.judge(judge, what), m.judge(judge, what));
                break;
            }
            case 6: {
                int what = 10 + near(30);
                due("judge(" + judge + ", " + what + ")", x.judge(judge, what), m.judge(judge, what));
                break;
            }
            case 7: {
                int kind = near(5);
                due("as(" + judge + ", " + kind + ")", x.as(judge, kind), m.as(judge, kind));
                break;
            }
            case 8: due("ways(" + judge + ")", x.ways(judge), m.ways(judge)); break;
            case 9: due("says(" + judge + ", " + a + ")", x.says(judge, a), m.says(judge, a)); break;
            case 10: {
                int what = near(2);
                due("odds(" + judge + ", " + what + ")", x.odds(judge, what), m.odds(judge, what));
                break;
            }
            case 11: {
                int many = 1 + near(3);
                int what = near(2);
                due("find(" + judge + ", " + many + ", " + what + ")", x.find(judge, many, what), m.find(judge, many, what));
                break;
            }
            case 12: {
                int times = near(61);
                int seed = random.nextInt(20) == 0 ? -1 : random.nextInt() & Integer.MAX_VALUE;
                due("assizes(" + times + ", " + seed + ", " + b + ")", x.assizes(times, seed, b), m.assizes(times, seed, b));
                break;
            }
            case 13: {
                int what = near(12);
                due("count(" + what + ")", x.count(what), m.count(what));
                break;
            }
            default:
                due("bench()", x.bench(), m.bench());
                due("digest()", x.digest(), m.digest());
        }
    }

    /** Mostly a number below the bound, at times one beside it, or far off. */
    private int near(int bound) {
        int draw = random.nextInt(40);
        if (draw == 0) {
            return random.nextInt();
        }
        if (draw == 1) {
            return random.nextBoolean() ? -1 : bound;
        }
        return random.nextInt(bound);
    }

    private int aJudge() {
        int many = m.now.judges.size();
        return near(Math.max(1, many));
    }

    // ---- texts

    private void writeCourt() {
        due("blank()", x.blank(), m.blank());
        StringBuilder text = new StringBuilder();
        int judges = 1 + random.nextInt(3);
        for (int i = 0; i < judges; i++) {
            text.append(i == 0 ? "" : ",").append("jscpv".charAt(random.nextInt(5)));
            int asked = 1 + random.nextInt(6);
            for (int fact = 0; fact < 6; fact++) {
                text.append(random.nextInt(6) < asked ? '?' : (char) ('0' + random.nextInt(2)));
            }
        }
        text.append(';');
        write(text.append(aLaw(56 - text.length())).toString());
        due("court()", x.court(), m.court());
    }

    private void writeAmendment() {
        due("blank()", x.blank(), m.blank());
        write(aLaw(56));
        due("amend()", x.amend(), m.amend());
    }

    private void write(String text) {
        String told = random.nextInt(5) == 0 ? spoiled(text) : text;
        for (int i = 0; i < told.length(); i++) {
            due("letter(" + told.charAt(i) + ")", x.letter(told.charAt(i)), m.letter(told.charAt(i)));
        }
        // Not always: a page must be read as well right behind another one that was none.
        if (random.nextBoolean()) {
            due("fault()", x.fault(), m.fault());
        }
        if (random.nextBoolean()) {
            due("lawFault()", x.lawFault(), m.lawFault());
        }
    }

    private String spoiled(String text) {
        String signs = "abcdefjscpv01234?,;!&|()[]gxZ ~" + (char) 1 + (char) 126 + (char) 0 + (char) 127;
        StringBuilder other = new StringBuilder(text);
        int at = random.nextInt(text.length());
        switch (random.nextInt(4)) {
            case 0: other.setLength(at); break;
            case 1: other.deleteCharAt(at); break;
            case 2: other.insert(at, signs.charAt(random.nextInt(signs.length()))); break;
            default: other.setCharAt(at, signs.charAt(random.nextInt(signs.length())));
        }
        return other.toString();
    }

    private String aLaw(int most) {
        for (int i = 0; i < 100; i++) {
            String law = draftLaw(4);
            if (law.length() <= most && (law.length() > 6 || i > 20)) {
                return law;
            }
        }
        return "a";
    }

    private String draftLaw(int depth) {
        StringBuilder law = new StringBuilder(draftPart(depth));
        int more = random.nextInt(4);
        for (int i = 0; i < more; i++) {
            law.append("&|".charAt(random.nextInt(2))).append(draftPart(depth));
        }
        return law.toString();
    }

    private String draftPart(int depth) {
        int draw = random.nextInt(depth > 0 ? 10 : 6);
        if (draw < 4) {
            return String.valueOf((char) ('a' + random.nextInt(6)));
        }
        if (draw < 6) {
            return "!" + draftPart(depth);
        }
        if (draw < 8) {
            return "(" + draftLaw(depth - 1) + ")";
        }
        StringBuilder list = new StringBuilder();
        list.append(1 + random.nextInt(3)).append('[').append(draftLaw(depth - 1));
        int more = random.nextInt(4);
        for (int i = 0; i < more; i++) {
            list.append(',').append(draftLaw(depth - 1));
        }
        return list.append(']').toString();
    }
}

/** One judge of the model: signs as in the text of a court; '-' where nothing was heard. */
final class ModelJudge {
    char kind;
    char[] known;
    char[] heard = "------".toCharArray();
    boolean coughed;

    ModelJudge copy() {
        ModelJudge other = new ModelJudge();
        other.kind = kind;
        other.known = known.clone();
        other.heard = heard.clone();
        other.coughed = coughed;
        return other;
    }

    boolean says(int world, int fact) {
        boolean is = (world >> fact & 1) == 1;
        switch (kind) {
            case 's': return fact >= 3 || is;
            case 'p': return fact >= 3 && is;
            case 'v': return fact == 5 || (fact >= 3 && is);
            default: return is;
        }
    }

    boolean agrees(int world) {
        for (int fact = 0; fact < 6; fact++) {
            char is = (world >> fact & 1) == 1 ? '1' : '0';
            if (known[fact] != '?' && known[fact] != is) {
                return false;
            }
            if (heard[fact] != '-' && heard[fact] != (says(world, fact) ? '1' : '0')) {
                return false;
            }
        }
        return true;
    }

    int heardCount() {
        int many = 0;
        for (char sign : heard) {
            many += sign == '-' ? 0 : 1;
        }
        return many;
    }
}

/** All that an image keeps. */
final class ModelState {
    List<ModelJudge> judges = new ArrayList<>();
    String law = null;
    int amended = 0;
    int questions = 0;
    List<int[]> seen = new ArrayList<>();

    ModelState copy() {
        ModelState other = new ModelState();
        for (ModelJudge judge : judges) {
            other.judges.add(judge.copy());
        }
        other.law = law;
        other.amended = amended;
        other.questions = questions;
        other.seen.addAll(seen);
        return other;
    }
}

/** Reads a whole law by recursion; bad becomes true if the text is none. */
final class LawText {
    private final String text;
    private final boolean[] answers;
    private int at = 0;
    boolean bad = false;

    LawText(String text, boolean[] answers) {
        this.text = text;
        this.answers = answers;
    }

    static boolean isLaw(String text) {
        LawText reading = new LawText(text, new boolean[6]);
        reading.law();
        return !reading.bad && reading.at == text.length();
    }

    private char next() {
        return at < text.length() ? text.charAt(at) : 0;
    }

    private void expect(char sign) {
        if (next() == sign) {
            at++;
        } else {
            bad = true;
        }
    }

    boolean law() {
        boolean any = term();
        while (!bad && next() == '|') {
            at++;
            any = term() | any;
        }
        return any;
    }

    private boolean term() {
        boolean all = part();
        while (!bad && next() == '&') {
            at++;
            all = part() & all;
        }
        return all;
    }

    private boolean part() {
        char sign = next();
        at++;
        if (sign >= 'a' && sign <= 'f') {
            return answers[sign - 'a'];
        }
        if (sign == '!') {
            return !part();
        }
        if (sign == '(') {
            boolean inner = law();
            expect(')');
            return inner;
        }
        if (sign >= '1' && sign <= '3') {
            expect('[');
            int holding = bad ? 0 : (law() ? 1 : 0);
            while (!bad && next() == ',') {
                at++;
                holding += law() ? 1 : 0;
            }
            expect(']');
            return holding >= sign - '0';
        }
        bad = true;
        return false;
    }
}

/** The document, as plainly as can be. */
final class Model {
    private static final int NONE = -1, UNKNOWN = -101, OUTSIDE = -102, STATE = -103, FULL = -104;

    ModelState now = new ModelState();
    private ModelState kept = null;
    private String page = "";
    private int courts = 0;

    // ---- the court

    int letter(int code) {
        if (code < 1 || code > 126) {
            return OUTSIDE;
        }
        if (page.length() == 56) {
            return FULL;
        }
        page += (char) code;
        return page.length();
    }

    int blank() {
        int had = page.length();
        page = "";
        return had;
    }

    private static boolean isCourt(String text) {
        int end = text.indexOf(';');
        if (end < 0) {
            return false;
        }
        String judge = "[jscpv][01?]{6}";
        return text.substring(0, end).matches(judge + "(," + judge + "){0,2}")
            && LawText.isLaw(text.substring(end + 1));
    }

    /** A text can go on to a law, if one of three ways to go on, all that is open closed, is one. */
    private static boolean beginsLaw(String text) {
        StringBuilder open = new StringBuilder();
        for (char sign : text.toCharArray()) {
            if (sign == '(' || sign == '[') {
                open.insert(0, sign == '(' ? ')' : ']');
            } else if ((sign == ')' || sign == ']') && open.length() > 0) {
                open.deleteCharAt(0);
            }
        }
        return LawText.isLaw(text + open) || LawText.isLaw(text + "a" + open)
            || LawText.isLaw(text + "[a]" + open);
    }

    private static boolean beginsCourt(String text) {
        int end = text.indexOf(';');
        if (end >= 0) {
            return isCourt(text.substring(0, end) + ";a") && beginsLaw(text.substring(end + 1));
        }
        String rest = "j??????;a";
        for (int from = 0; from < rest.length(); from++) {
            if (isCourt(text + rest.substring(from))) {
                return true;
            }
        }
        return false;
    }

    int fault() {
        for (int i = 0; i < page.length(); i++) {
            if (!beginsCourt(page.substring(0, i + 1))) {
                return i;
            }
        }
        return page.length();
    }

    int lawFault() {
        for (int i = 0; i < page.length(); i++) {
            if (!beginsLaw(page.substring(0, i + 1))) {
                return i;
            }
        }
        return page.length();
    }

    int court() {
        if (!isCourt(page)) {
            return STATE;
        }
        now = new ModelState();
        kept = null;
        int end = page.indexOf(';');
        for (String text : page.substring(0, end).split(",")) {
            ModelJudge judge = new ModelJudge();
            judge.kind = text.charAt(0);
            judge.known = text.substring(1).toCharArray();
            now.judges.add(judge);
        }
        now.law = page.substring(end + 1);
        courts++;
        page = "";
        return now.judges.size();
    }

    int amend() {
        if (now.law == null || !LawText.isLaw(page)) {
            return STATE;
        }
        now.law = page;
        now.amended++;
        page = "";
        return statute(0);
    }

    // ---- the law

    private boolean lawHolds(int answers) {
        boolean[] each = new boolean[6];
        for (int fact = 0; fact < 6; fact++) {
            each[fact] = (answers >> fact & 1) == 1;
        }
        return new LawText(now.law, each).law();
    }

    private int signs(String which) {
        int many = 0;
        for (char sign : now.law.toCharArray()) {
            many += which.indexOf(sign) >= 0 ? 1 : 0;
        }
        return many;
    }

    int statute(int what) {
        if (what < 0 || what > 5) {
            return OUTSIDE;
        }
        if (now.law == null) {
            return STATE;
        }
        int holding = 0;
        int matters = 0;
        for (int world = 0; world < 64; world++) {
            holding += lawHolds(world) ? 1 : 0;
            for (int fact = 0; fact < 6; fact++) {
                matters |= lawHolds(world) != lawHolds(world ^ 1 << fact) ? 1 << fact : 0;
            }
        }
        int deep = 0;
        int deepest = 0;
        for (char sign : now.law.toCharArray()) {
            deep += "([".indexOf(sign) >= 0 ? 1 : ")]".indexOf(sign) >= 0 ? -1 : 0;
            deepest = Math.max(deepest, deep);
        }
        int[] all = {holding, matters, signs("abcdef"), signs("!"), signs("123"), deepest};
        return all[what];
    }

    int holds(int world) {
        if (world < 0 || world > 63) {
            return OUTSIDE;
        }
        return now.law == null ? STATE : lawHolds(world) ? 1 : 0;
    }

    // ---- judges

    private boolean unknown(int judge) {
        return judge < 0 || judge >= now.judges.size();
    }

    private List<Integer> waysOf(ModelJudge judge) {
        List<Integer> ways = new ArrayList<>();
        for (int world = 0; world < 64; world++) {
            if (judge.agrees(world)) {
                ways.add(world);
            }
        }
        return ways;
    }

    private static int answersOf(ModelJudge judge, int world) {
        int answers = 0;
        for (int fact = 0; fact < 6; fact++) {
            answers |= judge.says(world, fact) ? 1 << fact : 0;
        }
        return answers;
    }

    private int freeCount(ModelJudge judge, List<Integer> ways, int struck) {
        boolean[] free = freeByAnswers();
        int many = 0;
        for (int world : ways) {
            many += free[answersOf(judge, world) & ~struck] ? 1 : 0;
        }
        return many;
    }

    private String freeLaw = null;
    private boolean[] freeBy = null;

    private boolean[] freeByAnswers() {
        if (!now.law.equals(freeLaw)) {
            freeLaw = now.law;
            freeBy = new boolean[64];
            for (int answers = 0; answers < 64; answers++) {
                freeBy[answers] = lawHolds(answers);
            }
        }
        return freeBy;
    }

    private int verdictOf(ModelJudge judge, List<Integer> ways) {
        int free = freeCount(judge, ways, 0);
        return free == ways.size() ? 1 : free == 0 ? 2 : 0;
    }

    private static List<Integer> saying(ModelJudge judge, List<Integer> ways, int fact, boolean said) {
        List<Integer> left = new ArrayList<>();
        for (int world : ways) {
            if (judge.says(world, fact) == said) {
                left.add(world);
            }
        }
        return left;
    }

    /** {how few, which first}. */
    private int[] leftOf(ModelJudge judge, List<Integer> ways, int asked) {
        if (verdictOf(judge, ways) != 0) {
            return new int[] {0, NONE};
        }
        int[] best = {100, NONE};
        for (int fact = 0; fact < 6; fact++) {
            if ((asked >> fact & 1) == 0 && judge.heard[fact] == '-') {
                int worst = 0;
                for (int said = 0; said < 2; said++) {
                    List<Integer> then = saying(judge, ways, fact, said == 1);
                    if (!then.isEmpty()) {
                        worst = Math.max(worst, leftOf(judge, then, asked | 1 << fact)[0]);
                    }
                }
                if (worst + 1 < best[0]) {
                    best = new int[] {worst + 1, fact};
                }
            }
        }
        return best;
    }

    private int luckOf(ModelJudge judge, List<Integer> ways, int asked) {
        if (verdictOf(judge, ways) == 1) {
            return 0;
        }
        int best = NONE;
        for (int fact = 0; fact < 6; fact++) {
            for (int said = 0; said < 2 && (asked >> fact & 1) == 0 && judge.heard[fact] == '-'; said++) {
                List<Integer> then = saying(judge, ways, fact, said == 1);
                if (!then.isEmpty() && verdictOf(judge, then) != 2) {
                    int more = luckOf(judge, then, asked | 1 << fact);
                    if (more != NONE && (best == NONE || more + 1 < best)) {
                        best = more + 1;
                    }
                }
            }
        }
        return best;
    }

    private int strikeOf(ModelJudge judge, List<Integer> ways) {
        int best = NONE;
        int most = freeCount(judge, ways, 0);
        for (int fact = 0; fact < 6; fact++) {
            if (freeCount(judge, ways, 1 << fact) > most) {
                most = freeCount(judge, ways, 1 << fact);
                best = fact;
            }
        }
        return best;
    }

    private List<Character> kindsOf(int judge) {
        List<Character> kinds = new ArrayList<>();
        for (char kind : "jscpv".toCharArray()) {
            ModelJudge other = new ModelJudge();
            other.kind = kind;
            boolean fits = true;
            for (int[] one : now.seen) {
                fits &= one[0] != judge || other.says(one[2] << one[1], one[1]) == (one[3] == 1);
            }
            if (fits) {
                kinds.add(kind);
            }
        }
        return kinds;
    }

    private static int testOf(List<Character> kinds) {
        int best = NONE;
        int fewest = 100;
        for (int test = 0; test < 12; test++) {
            int so = 0;
            for (char kind : kinds) {
                ModelJudge other = new ModelJudge();
                other.kind = kind;
                so += other.says(test % 2 << test / 2, test / 2) ? 1 : 0;
            }
            int worst = Math.max(so, kinds.size() - so);
            if (!kinds.isEmpty() && worst < fewest) {
                fewest = worst;
                best = test;
            }
        }
        return best;
    }

    int judge(int number, int what) {
        if (unknown(number)) {
            return UNKNOWN;
        }
        ModelJudge judge = now.judges.get(number);
        List<Integer> ways = waysOf(judge);
        if (what >= 20 && what <= 25) {
            return judge.known[what - 20] == '?' ? NONE : judge.known[what - 20] - '0';
        }
        if (what >= 30 && what <= 35) {
            return judge.heard[what - 30] == '-' ? NONE : judge.heard[what - 30] - '0';
        }
        switch (what) {
            case 0: return "jscpv".indexOf(judge.kind);
            case 1: return ways.size();
            case 2: return freeCount(judge, ways, 0);
            case 3: return verdictOf(judge, ways);
            case 4: return leftOf(judge, ways, 0)[0];
            case 5: return leftOf(judge, ways, 0)[1];
            case 6: return luckOf(judge, ways, 0);
            case 7: return judge.heardCount();
            case 8: return strikeOf(judge, ways);
            case 9: {
                int bits = 0;
                for (char kind : kindsOf(number)) {
                    bits += 1 << "jscpv".indexOf(kind);
                }
                return bits;
            }
            case 10: return testOf(kindsOf(number));
            default: return OUTSIDE;
        }
    }

    int as(int judge, int kind) {
        if (unknown(judge)) {
            return UNKNOWN;
        }
        if (kind < 0 || kind > 4) {
            return OUTSIDE;
        }
        String[] fits = {"j", "js", "jc", "jp", "jpv"};
        String own = fits["jscpv".indexOf(now.judges.get(judge).kind)];
        return own.indexOf("jscpv".charAt(kind)) >= 0 ? judge : NONE;
    }

    long ways(int judge) {
        if (unknown(judge)) {
            return UNKNOWN;
        }
        long bits = 0;
        for (int world : waysOf(now.judges.get(judge))) {
            bits |= 1L << world;
        }
        return bits;
    }

    int says(int judge, int world) {
        if (unknown(judge)) {
            return UNKNOWN;
        }
        return world < 0 || world > 63 ? OUTSIDE : answersOf(now.judges.get(judge), world);
    }

    int odds(int judge, int what) {
        if (unknown(judge)) {
            return UNKNOWN;
        }
        if (what < 0 || what > 1) {
            return OUTSIDE;
        }
        int above = judge(judge, 2);
        int below = judge(judge, 1);
        for (int part = 2; part <= 64; part++) {
            while (above % part == 0 && below % part == 0) {
                above /= part;
                below /= part;
            }
        }
        return what == 0 ? above : below;
    }

    // ---- questions, research

    int ask(int number, int fact, int said) {
        if (unknown(number) || fact < 0 || fact > 5) {
            return UNKNOWN;
        }
        if (said < 0 || said > 1) {
            return OUTSIDE;
        }
        ModelJudge judge = now.judges.get(number);
        if (judge.heard[fact] != '-' || saying(judge, waysOf(judge), fact, said == 1).isEmpty()) {
            return STATE;
        }
        now.questions++;
        if (judge.kind == 'c' && !judge.coughed) {
            judge.coughed = true;
            return -2;
        }
        judge.heard[fact] = (char) ('0' + said);
        return waysOf(judge).size();
    }

    int learn(int number, int fact, int is) {
        if (unknown(number) || fact < 0 || fact > 5) {
            return UNKNOWN;
        }
        if (is < 0 || is > 1) {
            return OUTSIDE;
        }
        ModelJudge judge = now.judges.get(number);
        if (judge.known[fact] != '?') {
            return STATE;
        }
        judge.known[fact] = (char) ('0' + is);
        if (waysOf(judge).isEmpty()) {
            judge.known[fact] = '?';
            return STATE;
        }
        return waysOf(judge).size();
    }

    int adjourn(int number) {
        if (unknown(number)) {
            return UNKNOWN;
        }
        ModelJudge judge = now.judges.get(number);
        int were = judge.heardCount();
        judge.heard = "------".toCharArray();
        judge.coughed = false;
        return were;
    }

    private int sureCount(ModelJudge judge, List<Integer> ways, int facts) {
        int many = 0;
        for (int world : ways) {
            List<Integer> like = new ArrayList<>();
            for (int other : ways) {
                if ((world & facts) == (other & facts)) {
                    like.add(other);
                }
            }
            many += freeCount(judge, like, 0) == like.size() ? 1 : 0;
        }
        return many;
    }

    int find(int number, int many, int what) {
        if (unknown(number)) {
            return UNKNOWN;
        }
        if (many < 1 || many > 3 || what < 0 || what > 1) {
            return OUTSIDE;
        }
        ModelJudge judge = now.judges.get(number);
        List<Integer> ways = waysOf(judge);
        int best = 0;
        int most = -1;
        for (int size = 0; size <= many; size++) {
            for (int facts = 0; facts < 64; facts++) {
                boolean fits = Integer.bitCount(facts) == size;
                for (int fact = 0; fact < 6; fact++) {
                    fits &= (facts >> fact & 1) == 0 || (judge.known[fact] == '?' && judge.heard[fact] == '-');
                }
                if (fits && sureCount(judge, ways, facts) > most) {
                    best = facts;
                    most = sureCount(judge, ways, facts);
                }
            }
        }
        return what == 0 ? best : most;
    }

    int bench() {
        if (now.law == null) {
            return STATE;
        }
        int best = 0;
        for (int i = 1; i < now.judges.size(); i++) {
            // Shares of at most 64 that differ do so by far more than a double loses.
            if ((double) judge(i, 2) / judge(i, 1) > (double) judge(best, 2) / judge(best, 1) + 1e-9) {
                best = i;
            }
        }
        return best;
    }

    // ---- what is seen

    int see(int judge, int fact, int is, int said) {
        if (unknown(judge) || fact < 0 || fact > 5) {
            return UNKNOWN;
        }
        if (is < 0 || is > 1 || said < 0 || said > 1) {
            return OUTSIDE;
        }
        if (now.seen.size() == 8) {
            return FULL;
        }
        now.seen.add(new int[] {judge, fact, is, said});
        return now.seen.size();
    }

    int forget() {
        int was = now.seen.size();
        now.seen.clear();
        return was;
    }

    private long seed;

    private int drawOf(int many) {
        seed = (1103515245L * seed + 12345L) % 2147483648L;
        return (int) (seed / 65536 % many);
    }

    int assizes(int times, int from, int what) {
        if (times < 1 || times > 60 || from < 0 || what < 0 || what > 2) {
            return OUTSIDE;
        }
        if (now.law == null) {
            return STATE;
        }
        seed = from;
        int often = 0;
        int sum = 0;
        for (int i = 0; i < times; i++) {
            ModelJudge judge = now.judges.get(drawOf(now.judges.size()));
            int world = 0;
            for (int fact = 0; fact < 6; fact++) {
                world += (judge.known[fact] == '?' ? drawOf(2) : judge.known[fact] - '0') << fact;
            }
            often += lawHolds(answersOf(judge, world)) ? 1 : 0;
            sum += world;
        }
        return what == 0 ? often : what == 1 ? sum : (int) seed;
    }

    // ---- what is told of all

    int image() {
        if (now.law == null) {
            return STATE;
        }
        kept = now.copy();
        return now.questions;
    }

    int restore() {
        if (kept == null) {
            return STATE;
        }
        now = kept.copy();
        return now.questions;
    }

    int count(int what) {
        int ways = 0;
        int free = 0;
        int hanged = 0;
        int heard = 0;
        int known = 0;
        for (int i = 0; i < now.judges.size(); i++) {
            ways += judge(i, 1);
            free += judge(i, 3) == 1 ? 1 : 0;
            hanged += judge(i, 3) == 2 ? 1 : 0;
            heard += judge(i, 7);
            for (int fact = 0; fact < 6; fact++) {
                known += judge(i, 20 + fact) == NONE ? 0 : 1;
            }
        }
        int[] all = {now.judges.size(), now.law == null ? 0 : statute(0), ways, free, hanged,
            now.questions, heard, known, now.seen.size(), page.length(), courts, now.amended};
        return what < 0 || what >= all.length ? OUTSIDE : all[what];
    }

    long digest() {
        List<Long> numbers = new ArrayList<>();
        for (int i = 0; i < now.judges.size(); i++) {
            for (int what = 0; what < 36; what++) {
                if (judge(i, what) != OUTSIDE) {
                    numbers.add((long) judge(i, what));
                }
            }
            numbers.add(ways(i));
            numbers.add((long) odds(i, 0));
            numbers.add((long) odds(i, 1));
            numbers.add((long) find(i, 2, 0));
            numbers.add((long) find(i, 2, 1));
        }
        for (int what = 0; what < 6 && now.law != null; what++) {
            numbers.add((long) statute(what));
        }
        if (now.law != null) {
            numbers.add((long) bench());
        }
        for (char sign : page.toCharArray()) {
            numbers.add((long) sign);
        }
        for (int what = 0; what < 12; what++) {
            numbers.add((long) count(what));
        }
        long h = 1103;
        for (long number : numbers) {
            h = 31 * h + number;
        }
        return h;
    }
}
