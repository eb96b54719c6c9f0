/**
 * A court in which the accused asks and the judge answers about himself. README.md tells how to
 * use it. A set of WORLDS is held as a long throughout: bit w stands for WORLD w.
 */
public final class AccusedAsks {
    public static final int NONE = -1, UNKNOWN = -101, OUTSIDE = -102, STATE = -103, FULL = -104;

    private static final int COUGHED = -2;

    private static final int JUDGE = 0, SILENT = 1, COUGH = 2, PROUD = 3, VAIN = 4, KINDS = 5;
    private static final int OPEN = 0, FREE = 1, HANGED = 2;

    private static final int FACTS = 6, WORLDS = 64;
    private static final int MOST_JUDGES = 3, MOST_LETTERS = 56, MOST_SEEN = 8;
    private static final int MOST_FOUND = 3, MOST_TIMES = 60, COUNTS = 12;

    /** A JUDGE takes so many letters of a COURT, with the "," or ";" behind him. */
    private static final int JUDGE_LETTERS = 8;

    private static final int KNOWN_FROM = 20, HEARD_FROM = 30;

    private static final long EVERY_WORLD = -1L;

    /** For each FACT the WORLDS in which it is so. */
    private static final long[] WHERE_SO = {
        0xAAAAAAAAAAAAAAAAL, 0xCCCCCCCCCCCCCCCCL, 0xF0F0F0F0F0F0F0F0L,
        0xFF00FF00FF00FF00L, 0xFFFF0000FFFF0000L, 0xFFFFFFFF00000000L
    };

    /** For each KIND the FACTS, as bits, on which he SAYS the same whatever it is; what he SAYS. */
    private static final int[] FIXED = {0, 0b111000, 0, 0b000111, 0b100111};
    private static final int[] FIXED_ANSWERS = {0, 0b111000, 0, 0, 0b100000};

    private final int[] page = new int[MOST_LETTERS];
    private int pageLength;

    private final LawReader reader = new LawReader();
    private int judgesRead;

    private final Docket now = new Docket();
    private final Docket kept = new Docket();
    private boolean imageKept;
    private int courtsRead;

    private final Prospect prospect = new Prospect();

    public AccusedAsks() {
    }

    // ---- the court

    public int letter(int code) {
        if (code < 1 || code > 126) {
            return OUTSIDE;
        }
        if (pageLength >= MOST_LETTERS) {
            return FULL;
        }
        page[pageLength] = code;
        pageLength++;
        return pageLength;
    }

    public int blank() {
        int had = pageLength;
        pageLength = 0;
        return had;
    }

    public int fault() {
        return scanCourt();
    }

    public int court() {
        if (scanCourt() < pageLength || judgesRead == 0 || !reader.isWhole()) {
            return STATE;
        }
        now.open(judgesRead);
        for (int i = 0; i < judgesRead; i++) {
            seat(now.judges[i], i * JUDGE_LETTERS);
        }
        now.law.take(reader.result());
        imageKept = false;
        courtsRead++;
        pageLength = 0;
        return judgesRead;
    }

    public int amend() {
        if (!hasCourt() || scanLaw(0) < pageLength || !reader.isWhole()) {
            return STATE;
        }
        now.law.take(reader.result());
        now.amended++;
        pageLength = 0;
        return Long.bitCount(now.law.holding);
    }

    public int lawFault() {
        return scanLaw(0);
    }

    // ---- the law

    public int statute(int what) {
        if (what < 0 || what > 5) {
            return OUTSIDE;
        }
        if (!hasCourt()) {
            return STATE;
        }
        switch (what) {
            case 0: return Long.bitCount(now.law.holding);
            case 1: return matters(now.law.holding);
            case 2: return now.law.letters;
            case 3: return now.law.nots;
            case 4: return now.law.digits;
            default: return now.law.depth;
        }
    }

    public int holds(int world) {
        if (!isWorld(world)) {
            return OUTSIDE;
        }
        if (!hasCourt()) {
            return STATE;
        }
        return has(now.law.holding, world) ? 1 : 0;
    }

    // ---- judges

    public int judge(int judge, int what) {
        if (!isJudge(judge)) {
            return UNKNOWN;
        }
        Judge one = now.judges[judge];
        if (what >= KNOWN_FROM && what < KNOWN_FROM + FACTS) {
            return told(one.known, one.being, what - KNOWN_FROM);
        }
        if (what >= HEARD_FROM && what < HEARD_FROM + FACTS) {
            return told(one.heard, one.said, what - HEARD_FROM);
        }
        switch (what) {
            case 0: return one.kind;
            case 1: return Long.bitCount(one.worlds());
            case 2: return Long.bitCount(freeWays(one));
            case 3: return verdict(one);
            case 4: return prospectOf(one).fewest;
            case 5: return prospectOf(one).first;
            case 6: return luck(one.kind, one.worlds(), freed(one.kind, now.law.holding));
            case 7: return Integer.bitCount(one.heard);
            case 8: return strike(one);
            case 9: return kindsLeft(judge);
            case 10: return bestTest(kindsLeft(judge));
            default: return OUTSIDE;
        }
    }

    public int as(int judge, int kind) {
        if (!isJudge(judge)) {
            return UNKNOWN;
        }
        if (kind < 0 || kind >= KINDS) {
            return OUTSIDE;
        }
        return isOfKind(now.judges[judge].kind, kind) ? judge : NONE;
    }

    public long ways(int judge) {
        return isJudge(judge) ? now.judges[judge].worlds() : UNKNOWN;
    }

    public int says(int judge, int world) {
        if (!isJudge(judge)) {
            return UNKNOWN;
        }
        if (!isWorld(world)) {
            return OUTSIDE;
        }
        int kind = now.judges[judge].kind;
        return (world & ~FIXED[kind]) | FIXED_ANSWERS[kind];
    }

    public int odds(int judge, int what) {
        if (!isJudge(judge)) {
            return UNKNOWN;
        }
        if (what < 0 || what > 1) {
            return OUTSIDE;
        }
        Judge one = now.judges[judge];
        int above = Long.bitCount(freeWays(one));
        int below = Long.bitCount(one.worlds());
        int part = commonPart(above, below);
        return (what == 0 ? above : below) / part;
    }

    // ---- questions, research

    public int ask(int judge, int fact, int said) {
        if (!isJudge(judge) || !isFact(fact)) {
            return UNKNOWN;
        }
        if (!isAnswer(said)) {
            return OUTSIDE;
        }
        Judge one = now.judges[judge];
        if (bit(one.heard, fact) == 1 || (one.worlds() & whereSaid(one.kind, fact, said)) == 0) {
            return STATE;
        }
        now.questions++;
        if (one.kind == COUGH && !one.coughed) {
            one.coughed = true;
            return COUGHED;
        }
        one.heard |= 1 << fact;
        one.said |= said << fact;
        return Long.bitCount(one.worlds());
    }

    public int learn(int judge, int fact, int is) {
        if (!isJudge(judge) || !isFact(fact)) {
            return UNKNOWN;
        }
        if (!isAnswer(is)) {
            return OUTSIDE;
        }
        Judge one = now.judges[judge];
        if (bit(one.known, fact) == 1 || (one.worlds() & where(fact, is)) == 0) {
            return STATE;
        }
        one.know(fact, is);
        return Long.bitCount(one.worlds());
    }

    public int adjourn(int judge) {
        if (!isJudge(judge)) {
            return UNKNOWN;
        }
        Judge one = now.judges[judge];
        int were = Integer.bitCount(one.heard);
        one.unhear();
        return were;
    }

    public int find(int judge, int many, int what) {
        if (!isJudge(judge)) {
            return UNKNOWN;
        }
        if (many < 1 || many > MOST_FOUND || what < 0 || what > 1) {
            return OUTSIDE;
        }
        Judge one = now.judges[judge];
        int facts = bestFind(one, many);
        if (what == 0) {
            return facts;
        }
        return Long.bitCount(sureWays(one.worlds(), freed(one.kind, now.law.holding), facts));
    }

    public int bench() {
        if (!hasCourt()) {
            return STATE;
        }
        int best = 0;
        int bestAbove = 0;
        int bestBelow = 1;
        for (int i = 0; i < now.judgeCount; i++) {
            int above = Long.bitCount(freeWays(now.judges[i]));
            int below = Long.bitCount(now.judges[i].worlds());
            if (above * bestBelow > bestAbove * below) {
                best = i;
                bestAbove = above;
                bestBelow = below;
            }
        }
        return best;
    }

    // ---- what is seen

    public int see(int judge, int fact, int is, int said) {
        if (!isJudge(judge) || !isFact(fact)) {
            return UNKNOWN;
        }
        if (!isAnswer(is) || !isAnswer(said)) {
            return OUTSIDE;
        }
        if (now.seenCount >= MOST_SEEN) {
            return FULL;
        }
        now.keepSeen(judge, fact, is, said);
        return now.seenCount;
    }

    public int forget() {
        int was = now.seenCount;
        now.seenCount = 0;
        return was;
    }

    public int assizes(int times, int seed, int what) {
        if (times < 1 || times > MOST_TIMES || seed < 0 || what < 0 || what > 2) {
            return OUTSIDE;
        }
        if (!hasCourt()) {
            return STATE;
        }
        int state = seed;
        int often = 0;
        int sum = 0;
        for (int i = 0; i < times; i++) {
            state = nextSeed(state);
            Judge one = now.judges[drawn(state, now.judgeCount)];
            int world = one.being;
            for (int fact = 0; fact < FACTS; fact++) {
                if (bit(one.known, fact) == 0) {
                    state = nextSeed(state);
                    world |= drawn(state, 2) << fact;
                }
            }
            often += has(freed(one.kind, now.law.holding), world) ? 1 : 0;
            sum += world;
        }
        return what == 0 ? often : what == 1 ? sum : state;
    }

    // ---- what is told of all

    public int image() {
        if (!hasCourt()) {
            return STATE;
        }
        kept.take(now);
        imageKept = true;
        return now.questions;
    }

    public int restore() {
        if (!imageKept) {
            return STATE;
        }
        now.take(kept);
        return now.questions;
    }

    public int count(int what) {
        switch (what) {
            case 0: return now.judgeCount;
            case 1: return hasCourt() ? Long.bitCount(now.law.holding) : 0;
            case 2: return sumWays();
            case 3: return countVerdicts(FREE);
            case 4: return countVerdicts(HANGED);
            case 5: return now.questions;
            case 6: return sumHeard();
            case 7: return sumKnown();
            case 8: return now.seenCount;
            case 9: return pageLength;
            case 10: return courtsRead;
            case 11: return now.amended;
            default: return OUTSIDE;
        }
    }

    public long digest() {
        long h = 1103;
        for (int i = 0; i < now.judgeCount; i++) {
            h = withJudge(h, i);
        }
        if (hasCourt()) {
            for (int what = 0; what <= 5; what++) {
                h = 31 * h + statute(what);
            }
            h = 31 * h + bench();
        }
        for (int i = 0; i < pageLength; i++) {
            h = 31 * h + page[i];
        }
        for (int what = 0; what < COUNTS; what++) {
            h = 31 * h + count(what);
        }
        return h;
    }

    private long withJudge(long before, int judge) {
        long h = before;
        for (int what = 0; what <= 10; what++) {
            h = 31 * h + judge(judge, what);
        }
        for (int fact = 0; fact < FACTS; fact++) {
            h = 31 * h + judge(judge, KNOWN_FROM + fact);
        }
        for (int fact = 0; fact < FACTS; fact++) {
            h = 31 * h + judge(judge, HEARD_FROM + fact);
        }
        h = 31 * h + ways(judge);
        h = 31 * h + odds(judge, 0);
        h = 31 * h + odds(judge, 1);
        h = 31 * h + find(judge, 2, 0);
        return 31 * h + find(judge, 2, 1);
    }

    // ---- reading THE PAGE

    /** The place of the first letter that no COURT has there, or the length of THE PAGE. */
    private int scanCourt() {
        judgesRead = 0;
        reader.start();
        for (int i = 0; i < pageLength; i++) {
            if (i % JUDGE_LETTERS == JUDGE_LETTERS - 1 && page[i] == ';') {
                judgesRead = i / JUDGE_LETTERS + 1;
                return scanLaw(i + 1);
            }
            if (!fitsAmongJudges(i)) {
                return i;
            }
        }
        return pageLength;
    }

    private boolean fitsAmongJudges(int place) {
        int code = page[place];
        int within = place % JUDGE_LETTERS;
        if (within == 0) {
            return kindOf(code) != NONE;
        }
        if (within == JUDGE_LETTERS - 1) {
            return code == ',' && place / JUDGE_LETTERS < MOST_JUDGES - 1;
        }
        return code == '0' || code == '1' || code == '?';
    }

    /** The place of the first letter, from a place on, that no LAW has there, or the length. */
    private int scanLaw(int from) {
        reader.start();
        for (int i = from; i < pageLength; i++) {
            if (!reader.accept(page[i])) {
                return i;
            }
        }
        return pageLength;
    }

    /** Reads one JUDGE from a place of THE PAGE at which scanCourt has seen one. */
    private void seat(Judge one, int place) {
        one.clear(kindOf(page[place]));
        for (int fact = 0; fact < FACTS; fact++) {
            int sign = page[place + 1 + fact];
            if (sign != '?') {
                one.know(fact, sign == '1' ? 1 : 0);
            }
        }
    }

    private static int kindOf(int code) {
        switch (code) {
            case 'j': return JUDGE;
            case 's': return SILENT;
            case 'c': return COUGH;
            case 'p': return PROUD;
            case 'v': return VAIN;
            default: return NONE;
        }
    }

    // ---- what numbers name

    private boolean hasCourt() {
        return now.judgeCount > 0;
    }

    private boolean isJudge(int judge) {
        return judge >= 0 && judge < now.judgeCount;
    }

    private static boolean isFact(int fact) {
        return fact >= 0 && fact < FACTS;
    }

    private static boolean isWorld(int world) {
        return world >= 0 && world < WORLDS;
    }

    private static boolean isAnswer(int answer) {
        return answer == 0 || answer == 1;
    }

    private static boolean isOfKind(int own, int kind) {
        return kind == JUDGE || kind == own || (kind == PROUD && own == VAIN);
    }

    // ---- bits and WORLDS

    private static int bit(int bits, int place) {
        return (bits >>> place) & 1;
    }

    private static boolean has(long worlds, int world) {
        return ((worlds >>> world) & 1L) != 0;
    }

    private static int told(int which, int values, int fact) {
        return bit(which, fact) == 1 ? bit(values, fact) : NONE;
    }

    private static long where(int fact, int is) {
        return is == 1 ? WHERE_SO[fact] : ~WHERE_SO[fact];
    }

    /** The WORLDS that a set becomes when a FACT of each turns into its contrary. */
    private static long turned(long worlds, int fact) {
        int step = 1 << fact;
        return ((worlds & WHERE_SO[fact]) >>> step) | ((worlds & ~WHERE_SO[fact]) << step);
    }

    /** Where a LAW holds, if the answer on a FACT is this one, whatever the WORLD is. */
    private static long pinned(long holding, int fact, int answer) {
        long part = holding & where(fact, answer);
        return part | turned(part, fact);
    }

    private static int matters(long holding) {
        int facts = 0;
        for (int fact = 0; fact < FACTS; fact++) {
            if (turned(holding, fact) != holding) {
                facts |= 1 << fact;
            }
        }
        return facts;
    }

    // ---- what KINDS say

    private static int answer(int kind, int fact, int is) {
        return bit(FIXED[kind], fact) == 1 ? bit(FIXED_ANSWERS[kind], fact) : is;
    }

    private static long whereSaid(int kind, int fact, int said) {
        if (bit(FIXED[kind], fact) == 0) {
            return where(fact, said);
        }
        return bit(FIXED_ANSWERS[kind], fact) == said ? EVERY_WORLD : 0L;
    }

    /** The WORLDS in which a JUDGE of a KIND FREES by a LAW. */
    private static long freed(int kind, long holding) {
        long worlds = holding;
        for (int fact = 0; fact < FACTS; fact++) {
            if (bit(FIXED[kind], fact) == 1) {
                worlds = pinned(worlds, fact, bit(FIXED_ANSWERS[kind], fact));
            }
        }
        return worlds;
    }

    // ---- what is told of one JUDGE

    private long freeWays(Judge one) {
        return one.worlds() & freed(one.kind, now.law.holding);
    }

    private int verdict(Judge one) {
        long ways = one.worlds();
        long free = ways & freed(one.kind, now.law.holding);
        if (free == ways) {
            return FREE;
        }
        return free == 0 ? HANGED : OPEN;
    }

    private Prospect prospectOf(Judge one) {
        long ways = one.worlds();
        long free = freed(one.kind, now.law.holding);
        if (!prospect.isFor(one.kind, ways, free)) {
            prospect.spread(one.kind, ways);
            prospect.weigh(free);
        }
        return prospect;
    }

    /** The WAYS in which it is FREE already by how these FACTS are. */
    private static long sureWays(long ways, long free, int facts) {
        long doubtful = ways & ~free;
        for (int fact = 0; fact < FACTS; fact++) {
            if (bit(facts, fact) == 0) {
                doubtful |= turned(doubtful, fact);
            }
        }
        return ways & ~doubtful;
    }

    private static int luck(int kind, long ways, long free) {
        int best = NONE;
        for (int facts = 0; facts < WORLDS; facts++) {
            int many = Integer.bitCount(facts);
            // A fixed answer tells nothing, so no such question is among the fewest.
            if ((facts & FIXED[kind]) == 0 && (best == NONE || many < best)
                    && sureWays(ways, free, facts) != 0) {
                best = many;
            }
        }
        return best;
    }

    private int bestFind(Judge one, int many) {
        long ways = one.worlds();
        long free = freed(one.kind, now.law.holding);
        int settled = one.known | one.heard;
        int best = 0;
        int most = Long.bitCount(sureWays(ways, free, 0));
        for (int facts = 1; facts < WORLDS; facts++) {
            int size = Integer.bitCount(facts);
            if ((facts & settled) == 0 && size <= many) {
                int sure = Long.bitCount(sureWays(ways, free, facts));
                if (sure > most || (sure == most && size < Integer.bitCount(best))) {
                    best = facts;
                    most = sure;
                }
            }
        }
        return best;
    }

    private int strike(Judge one) {
        long ways = one.worlds();
        int best = NONE;
        int most = Long.bitCount(ways & freed(one.kind, now.law.holding));
        for (int fact = 0; fact < FACTS; fact++) {
            long free = freed(one.kind, pinned(now.law.holding, fact, 0));
            int many = Long.bitCount(ways & free);
            if (many > most) {
                best = fact;
                most = many;
            }
        }
        return best;
    }

    private static int commonPart(int above, int below) {
        for (int part = below; part > 1; part--) {
            if (above % part == 0 && below % part == 0) {
                return part;
            }
        }
        return 1;
    }

    // ---- of which KIND a JUDGE is

    private int kindsLeft(int judge) {
        int kinds = 0;
        for (int kind = 0; kind < KINDS; kind++) {
            if (now.couldBe(judge, kind)) {
                kinds |= 1 << kind;
            }
        }
        return kinds;
    }

    private static int bestTest(int kinds) {
        int best = NONE;
        int fewest = KINDS + 1;
        for (int test = 0; test < 2 * FACTS && kinds != 0; test++) {
            int sayingSo = kinds & kindsSayingSo(test / 2, test % 2);
            int worst = Math.max(Integer.bitCount(sayingSo), Integer.bitCount(kinds & ~sayingSo));
            if (worst < fewest) {
                best = test;
                fewest = worst;
            }
        }
        return best;
    }

    private static int kindsSayingSo(int fact, int is) {
        int kinds = 0;
        for (int kind = 0; kind < KINDS; kind++) {
            kinds |= answer(kind, fact, is) << kind;
        }
        return kinds;
    }

    // ---- DRAWS

    private static int nextSeed(int seed) {
        return (int) ((1103515245L * seed + 12345L) & 0x7FFFFFFFL);
    }

    private static int drawn(int seed, int many) {
        return many > 0 ? (seed >>> 16) % many : 0;
    }

    // ---- sums over all JUDGES

    private int sumWays() {
        int sum = 0;
        for (int i = 0; i < now.judgeCount; i++) {
            sum += Long.bitCount(now.judges[i].worlds());
        }
        return sum;
    }

    private int countVerdicts(int verdict) {
        int many = 0;
        for (int i = 0; i < now.judgeCount; i++) {
            many += verdict(now.judges[i]) == verdict ? 1 : 0;
        }
        return many;
    }

    private int sumHeard() {
        int sum = 0;
        for (int i = 0; i < now.judgeCount; i++) {
            sum += Integer.bitCount(now.judges[i].heard);
        }
        return sum;
    }

    private int sumKnown() {
        int sum = 0;
        for (int i = 0; i < now.judgeCount; i++) {
            sum += Integer.bitCount(now.judges[i].known);
        }
        return sum;
    }

    /** A LAW by where it holds, and what is counted in its text. */
    private static final class Law {
        private long holding;
        private int letters;
        private int nots;
        private int digits;
        private int depth;

        private void clear() {
            holding = 0L;
            letters = 0;
            nots = 0;
            digits = 0;
            depth = 0;
        }

        private void take(Law other) {
            holding = other.holding;
            letters = other.letters;
            nots = other.nots;
            digits = other.digits;
            depth = other.depth;
        }
    }

    /** One JUDGE: FACTS as bits, a bit of being (or said) counts only where known (or heard) is. */
    private static final class Judge {
        private int kind;
        private int known;
        private int being;
        private int heard;
        private int said;
        private boolean coughed;

        private void clear(int newKind) {
            kind = newKind;
            known = 0;
            being = 0;
            unhear();
        }

        private void know(int fact, int is) {
            known |= 1 << fact;
            being |= is << fact;
        }

        private void unhear() {
            heard = 0;
            said = 0;
            coughed = false;
        }

        private void take(Judge other) {
            kind = other.kind;
            known = other.known;
            being = other.being;
            heard = other.heard;
            said = other.said;
            coughed = other.coughed;
        }

        /** His WAYS. */
        private long worlds() {
            long worlds = EVERY_WORLD;
            for (int fact = 0; fact < FACTS; fact++) {
                if (bit(known, fact) == 1) {
                    worlds &= where(fact, bit(being, fact));
                }
                if (bit(heard, fact) == 1) {
                    worlds &= whereSaid(kind, fact, bit(said, fact));
                }
            }
            return worlds;
        }
    }

    /** All that an IMAGE keeps of a COURT. Without a COURT it has no JUDGES. */
    private static final class Docket {
        private final Judge[] judges = {new Judge(), new Judge(), new Judge()};
        private int judgeCount;
        private final Law law = new Law();
        private int amended;
        private int questions;
        private final int[] seen = new int[MOST_SEEN];
        private int seenCount;

        private void open(int many) {
            judgeCount = many;
            amended = 0;
            questions = 0;
            seenCount = 0;
        }

        private void take(Docket other) {
            for (int i = 0; i < MOST_JUDGES; i++) {
                judges[i].take(other.judges[i]);
            }
            judgeCount = other.judgeCount;
            law.take(other.law);
            amended = other.amended;
            questions = other.questions;
            for (int i = 0; i < MOST_SEEN; i++) {
                seen[i] = other.seen[i];
            }
            seenCount = other.seenCount;
        }

        /** What is SEEN stands in one number: JUDGE, FACT, how it is, and what was SAID. */
        private void keepSeen(int judge, int fact, int is, int said) {
            if (seenCount < MOST_SEEN) {
                seen[seenCount] = (judge * FACTS + fact) * 4 + is * 2 + said;
                seenCount++;
            }
        }

        private boolean couldBe(int judge, int kind) {
            for (int i = 0; i < seenCount; i++) {
                int which = seen[i] / 4;
                boolean ofHim = which / FACTS == judge;
                if (ofHim && answer(kind, which % FACTS, bit(seen[i], 1)) != bit(seen[i], 0)) {
                    return false;
                }
            }
            return true;
        }
    }

    /**
     * Reads a LAW letter by letter, and where it holds as it goes. It keeps its own stack of what
     * is open, so that no text, however deep, needs deep calls.
     */
    private static final class LawReader {
        /** Every letter opens one level at most; one more is there before any is opened. */
        private static final int LEVELS = MOST_LETTERS + 1;
        private static final int PLAIN = 0, ROUND = 1, SQUARE = 2;

        private final Law law = new Law();

        private final int[] shape = new int[LEVELS];
        private final int[] needed = new int[LEVELS];
        private final boolean[] negated = new boolean[LEVELS];
        /** Where a TERM of the LAW that is being read holds, of those that have ended. */
        private final long[] anyTerm = new long[LEVELS];
        /** Where all PARTS of the TERM that is being read hold, so far. */
        private final long[] allParts = new long[LEVELS];
        /** Where at least one, two, three of the LAWS in "[" hold, of those that have ended. */
        private final long[] one = new long[LEVELS];
        private final long[] two = new long[LEVELS];
        private final long[] three = new long[LEVELS];
        private int level;

        private boolean wantsPart;
        private boolean not;
        private int digit;

        private void start() {
            law.clear();
            level = 0;
            shape[0] = PLAIN;
            negated[0] = false;
            startLaw();
            not = false;
            digit = 0;
        }

        private boolean isWhole() {
            return level == 0 && !wantsPart;
        }

        /** The LAW that was read, if it is whole. */
        private Law result() {
            law.holding = lawSoFar();
            return law;
        }

        /** Takes the next letter; false, if no LAW has it here (then nothing changes). */
        private boolean accept(int code) {
            if (digit != 0) {
                return code == '[' && openLevel(SQUARE);
            }
            return wantsPart ? acceptInPart(code) : acceptBehindPart(code);
        }

        private boolean acceptInPart(int code) {
            if (code >= 'a' && code <= 'f') {
                law.letters++;
                endPart(WHERE_SO[code - 'a']);
                return true;
            }
            if (code == '!') {
                law.nots++;
                not = !not;
                return true;
            }
            if (code >= '1' && code <= '3') {
                law.digits++;
                digit = code - '0';
                return true;
            }
            return code == '(' && openLevel(ROUND);
        }

        private boolean acceptBehindPart(int code) {
            switch (code) {
                case '&':
                    wantsPart = true;
                    return true;
                case '|':
                    anyTerm[level] |= allParts[level];
                    startTerm();
                    return true;
                case ',':
                    return shape[level] == SQUARE && endLawOfList();
                case ')':
                    return shape[level] == ROUND && closeLevel(lawSoFar());
                case ']':
                    return shape[level] == SQUARE && endLawOfList() && closeLevel(listSoFar());
                default:
                    return false;
            }
        }

        private boolean openLevel(int newShape) {
            if (level + 1 >= LEVELS) {
                return false;
            }
            level++;
            law.depth = Math.max(law.depth, level);
            shape[level] = newShape;
            needed[level] = digit;
            negated[level] = not;
            one[level] = 0L;
            two[level] = 0L;
            three[level] = 0L;
            digit = 0;
            not = false;
            startLaw();
            return true;
        }

        private boolean closeLevel(long worlds) {
            if (level <= 0) {
                return false;
            }
            not = negated[level];
            level--;
            endPart(worlds);
            return true;
        }

        private boolean endLawOfList() {
            long worlds = lawSoFar();
            three[level] |= two[level] & worlds;
            two[level] |= one[level] & worlds;
            one[level] |= worlds;
            startLaw();
            return true;
        }

        private void startLaw() {
            anyTerm[level] = 0L;
            startTerm();
        }

        private void startTerm() {
            allParts[level] = EVERY_WORLD;
            wantsPart = true;
        }

        private void endPart(long worlds) {
            allParts[level] &= not ? ~worlds : worlds;
            not = false;
            wantsPart = false;
        }

        private long lawSoFar() {
            return anyTerm[level] | allParts[level];
        }

        private long listSoFar() {
            switch (needed[level]) {
                case 1: return one[level];
                case 2: return two[level];
                default: return three[level];
            }
        }
    }

    /** LEFT of a JUDGE, worked out over all that he could have SAID to some of the questions. */
    private static final class Prospect {
        private static final int STATES = 729;

        private int fewest;
        private int first = NONE;

        /** For what it was worked out last, so that the same is not worked out twice. */
        private int kindThen;
        private long waysThen;
        private long freeThen;

        /** The FACTS on which he can SAY either. */
        private final int[] facts = new int[FACTS];
        private int factCount;

        /**
         * A state is what was SAID so far: in base 3, for each of these FACTS a digit: 0 it was
         * not asked, 1 he SAID 0, 2 he SAID 1. So a state always comes before those behind it.
         */
        private final long[] waysIn = new long[STATES];
        private final int[] fewIn = new int[STATES];
        private int states;

        private boolean isFor(int kind, long ways, long free) {
            return kind == kindThen && ways == waysThen && free == freeThen;
        }

        private void spread(int kind, long ways) {
            kindThen = kind;
            waysThen = ways;
            waysIn[0] = ways;
            states = 1;
            factCount = 0;
            for (int fact = 0; fact < FACTS; fact++) {
                long saidSo = whereSaid(kind, fact, 1);
                if ((ways & saidSo) != 0 && (ways & ~saidSo) != 0) {
                    for (int state = 0; state < states; state++) {
                        waysIn[state + states] = waysIn[state] & ~saidSo;
                        waysIn[state + 2 * states] = waysIn[state] & saidSo;
                    }
                    facts[factCount] = fact;
                    factCount++;
                    states *= 3;
                }
            }
        }

        private void weigh(long free) {
            freeThen = free;
            for (int state = states - 1; state >= 0; state--) {
                long ways = waysIn[state];
                boolean open = (ways & free) != 0 && (ways & ~free) != 0;
                fewIn[state] = open ? fewFrom(state) : 0;
            }
            fewest = fewIn[0];
            first = firstQuestion();
        }

        private int fewFrom(int state) {
            int best = FACTS;
            int rest = state;
            int step = 1;
            for (int i = 0; i < factCount; i++) {
                if (rest % 3 == 0) {
                    best = Math.min(best, worstBehind(state, step) + 1);
                }
                rest /= 3;
                step *= 3;
            }
            return best;
        }

        private int worstBehind(int state, int step) {
            int ifNot = fewIn[state + step];
            int ifSo = fewIn[state + 2 * step];
            return ifNot > ifSo ? ifNot : ifSo;
        }

        private int firstQuestion() {
            int step = 1;
            for (int i = 0; i < factCount; i++) {
                if (worstBehind(0, step) + 1 == fewest) {
                    return facts[i];
                }
                step *= 3;
            }
            return NONE;
        }
    }
}
