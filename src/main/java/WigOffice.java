import java.util.NoSuchElementException;

/** A realm whose wigs hold office; the document's promises 1 to 32. */
public final class WigOffice {
    public static final int NONE = -1;

    private static final int OTHERS = -2;
    /** WIGS, and HEADS, at most. */
    private static final int MOST = 6;
    /** Sets of WIGS, or of HEADS, as bits. */
    private static final int SETS = 64;
    private static final int MOST_SIGNS = 1000;
    private static final int MOST_LINES = 40;
    private static final int MOST_SAID = 8;
    private static final int MOST_UNDONE = 16;
    private static final int MARKS = 4;
    private static final int HARDEST = 9;
    private static final int WORN_OUT = 9;
    private static final int MOST_PIECES = 5;

    private final Tape tape = new Tape();
    private final Reader reader = new Reader(tape);
    private final Affairs now = new Affairs();
    private final Affairs[] marks = new Affairs[MARKS];
    private final Stands[] past = new Stands[MOST_UNDONE];
    private int pastCount;
    private int pastNext;
    private Realm told = new Realm();
    private Realm draft = new Realm();
    private final Years draftYears = new Years();
    private final Stands trial = new Stands();
    private final Fittings fittings = new Fittings();
    private final Rows rows = new Rows();
    private long drawn;

    public WigOffice() {
        for (int i = 0; i < MARKS; i++) {
            marks[i] = new Affairs();
        }
        for (int i = 0; i < MOST_UNDONE; i++) {
            past[i] = new Stands();
        }
    }

    public int feed(long a, long b, long c) {
        tape.add(a);
        tape.add(b);
        tape.add(c);
        return tape.length;
    }

    public int realm() {
        int fault = reader.readRealm(draft);
        tape.clear();
        if (fault != 0) {
            return fault;
        }
        Realm elder = told;
        told = draft;
        draft = elder;
        now.clear();
        pastCount = 0;
        for (int i = 0; i < MARKS; i++) {
            marks[i].laid = false;
        }
        return 0;
    }

    public int years() {
        int fault = reader.readYears(told, draftYears);
        tape.clear();
        if (fault == 0) {
            now.years.copy(draftYears);
        }
        return fault;
    }

    public int wig(int wig, int what) {
        if (!told.isWig(wig)) {
            return OTHERS;
        }
        switch (what) {
            case 0: return told.sizeOfWig(wig);
            case 1: return told.officeOf(wig);
            case 2: return told.leanOfWig(wig);
            case 3: return now.stands.headUnder(wig);
            case 4: return now.stands.wearOf(wig);
            default: return OTHERS;
        }
    }

    public int head(int head, int what) {
        if (!told.isHead(head)) {
            return OTHERS;
        }
        switch (what) {
            case 0: return told.ofHead(head, Realm.KIND);
            case 1: return told.ofHead(head, Realm.HEAD_SIZE);
            case 2: return told.ofHead(head, Realm.AGE);
            case 3: return told.ofHead(head, Realm.HEAD_LEAN);
            case 4: return told.girth(head, now.stands.season);
            case 5: return now.stands.wigUpon(head);
            default: return OTHERS;
        }
    }

    public boolean fits(int wig, int head, int seasons) {
        return told.isWig(wig) && told.isHead(head) && seasons >= 0 && seasons <= 99
            && told.isFit(wig, head, now.stands.season + seasons);
    }

    public boolean put(int wig, int head) {
        if (!now.stands.canPut(told, wig, head)) {
            return false;
        }
        remember();
        now.stands.place(wig, head);
        return true;
    }

    public int off(int wig) {
        if (!now.stands.canTakeOff(told, wig)) {
            return NONE;
        }
        remember();
        int head = now.stands.headUnder(wig);
        now.stands.place(wig, NONE);
        return head;
    }

    public int mend(int wig) {
        if (!now.stands.canMend(told, wig)) {
            return NONE;
        }
        remember();
        int wear = now.stands.wearOf(wig);
        now.stands.makeNew(wig);
        return wear;
    }

    public int season() {
        remember();
        now.forgetTilts();
        return now.stands.pass(told);
    }

    public boolean undo() {
        if (pastCount <= 0) {
            return false;
        }
        pastCount--;
        pastNext = Math.floorMod(pastNext - 1, MOST_UNDONE);
        now.stands.copy(past[pastNext]);
        now.forgetTilts();
        return true;
    }

    /** Called ahead of each deed that can be undone. */
    private void remember() {
        past[pastNext].copy(now.stands);
        pastNext = Math.floorMod(pastNext + 1, MOST_UNDONE);
        pastCount = Math.min(pastCount + 1, MOST_UNDONE);
    }

    public int judged(int what) {
        if (what < 0 || what > 2) {
            return OTHERS;
        }
        trial.clear();
        int failed = NONE;
        int fell = NONE;
        for (int line = 0; line < now.years.count; line++) {
            int came = now.years.play(line, told, trial);
            if (came == NONE && failed == NONE) {
                failed = line;
            }
            if (came > 0 && fell == NONE) {
                fell = line;
            }
        }
        return what == 0 ? failed : what == 1 ? fell : told.officeOfAll(trial.worn(told));
    }

    public int verdict(int hard) {
        return isHardness(hard) ? wigsFor(hard) : NONE;
    }

    public int votes(int hard) {
        return isHardness(hard) ? told.officeOfAll(wigsFor(hard)) : NONE;
    }

    private static boolean isHardness(int hard) {
        return hard >= 0 && hard <= HARDEST;
    }

    private int wigsFor(int hard) {
        int bits = 0;
        for (int wig = 0; wig < told.wigs; wig++) {
            int head = now.stands.headUnder(wig);
            if (head != NONE && told.isFor(told.leanOfWig(wig), head, hard)) {
                bits |= 1 << wig;
            }
        }
        return bits;
    }

    public int fill(int seasons, int wig) {
        if (seasons < 1 || seasons > 8 || wig != NONE && !told.isWig(wig)) {
            return OTHERS;
        }
        rows.begin(told.wigs, false);
        int wornOut = now.stands.wornOut(told);
        for (int each = 0; each < told.wigs; each++) {
            if ((wornOut >> each & 1) == 0) {
                openHeads(each, seasons);
            }
        }
        int office = rows.solve();
        return wig == NONE ? office : rows.chosen(wig);
    }

    private void openHeads(int wig, int seasons) {
        for (int head = 0; head < told.heads; head++) {
            if (isFitThrough(wig, head, seasons)) {
                rows.open(wig, head);
                rows.gains(wig, head, told.officeOf(wig));
            }
        }
    }

    private boolean isFitThrough(int wig, int head, int seasons) {
        for (int i = 0; i < seasons; i++) {
            if (!told.isFit(wig, head, now.stands.season + i)) {
                return false;
            }
        }
        return true;
    }

    public boolean say(int head, int hard, boolean isFor) {
        return told.isHead(head) && isHardness(hard) && now.sayings.add(head, hard, isFor);
    }

    public int leans(int what) {
        int bits = now.sayings.possible(told);
        if (what == 0) {
            return Integer.bitCount(bits);
        }
        if (what != 1 && what != 2) {
            return NONE;
        }
        int found = NONE;
        for (int lean = 0; lean <= 9; lean++) {
            if ((bits >> lean & 1) == 1 && (found == NONE || what == 2)) {
                found = lean;
            }
        }
        return found;
    }

    public int next(int head) {
        if (!told.isHead(head)) {
            return NONE;
        }
        int bits = now.sayings.possible(told);
        int all = Integer.bitCount(bits);
        int least = all;
        int found = NONE;
        for (int hard = 0; hard <= HARDEST; hard++) {
            int yes = 0;
            for (int lean = 0; lean <= 9; lean++) {
                if ((bits >> lean & 1) == 1 && told.isFor(lean, head, hard)) {
                    yes++;
                }
            }
            int greater = Math.max(yes, all - yes);
            if (greater < least) {
                least = greater;
                found = hard;
            }
        }
        return found;
    }

    public int baths(int head, int wig, int seasons) {
        if (!told.isHead(head) || !told.isWig(wig) || seasons < 1 || seasons > 40) {
            return NONE;
        }
        int baths = 0;
        for (int i = 0; i < seasons; i++) {
            int larger = told.sizeOfWig(wig) - told.girth(head, now.stands.season + i);
            baths += Math.max(0, -larger) + Math.max(0, larger - told.slack);
        }
        return baths;
    }

    public int keeps(int wig) {
        int head = told.isWig(wig) ? now.stands.headUnder(wig) : NONE;
        if (head == NONE) {
            return NONE;
        }
        for (int i = 1; i <= 40; i++) {
            if (!told.isFit(wig, head, now.stands.season + i)) {
                return i;
            }
        }
        return NONE;
    }

    public int moths(int seasons, int what) {
        if (seasons < 1 || seasons > 4 || what < 0 || what > seasons) {
            return OTHERS;
        }
        rows.begin(seasons, true);
        trial.copy(now.stands);
        for (int i = 0; i < seasons; i++) {
            openStands(i);
            trial.pass(told);
        }
        // A WIG that was mended is worn 4 at most at last: it is saved, whenever that was.
        int wornOut = trial.wornOut(told);
        for (int i = 0; i < seasons; i++) {
            for (int wig = 0; wig < told.wigs; wig++) {
                rows.gains(i, wig, (wornOut >> wig & 1) == 1 ? told.officeOf(wig) : 0);
            }
        }
        int saved = rows.solve();
        return what == 0 ? told.officeOfAll(~wornOut) + saved : rows.chosen(what - 1);
    }

    private void openStands(int step) {
        for (int wig = 0; wig < told.wigs; wig++) {
            if (trial.canMend(told, wig)) {
                rows.open(step, wig);
            }
        }
    }

    public boolean tell(int wig, int tilt) {
        if (!told.isWig(wig) || tilt < 0 || tilt > 9) {
            return false;
        }
        now.tilts[wig] = tilt;
        return true;
    }

    public int under(int wig) {
        if (wig != NONE && !told.isWig(wig)) {
            return OTHERS;
        }
        fittings.measure(told, now.stands.season);
        fittings.layWays(now.tilts, NONE);
        int all = fittings.waysWithout(0);
        if (wig == NONE) {
            return all;
        }
        if (now.tilts[wig] == NONE || all == 0) {
            return NONE;
        }
        fittings.layWays(now.tilts, wig);
        for (int head = 0; head < told.heads; head++) {
            if (fittings.tiltOf(wig, head) == now.tilts[wig] && fittings.waysWithout(1 << head) == all) {
                return head;
            }
        }
        return NONE;
    }

    public int ask() {
        fittings.measure(told, now.stands.season);
        fittings.layWays(now.tilts, NONE);
        int least = NONE;
        int found = NONE;
        for (int wig = 0; wig < told.wigs; wig++) {
            if (now.tilts[wig] == NONE) {
                int greatest = fittings.greatestLikeWays(wig);
                if (greatest < fittings.allWays(wig) && (found == NONE || greatest < least)) {
                    least = greatest;
                    found = wig;
                }
            }
        }
        return found;
    }

    public int power(int wig, int quota) {
        if (!told.isWig(wig) || quota < 0 || quota > 999 || now.stands.headUnder(wig) == NONE) {
            return NONE;
        }
        int others = now.stands.worn(told) & ~(1 << wig);
        int sets = 0;
        for (int set = 0; set < SETS; set++) {
            if ((set & ~others) == 0) {
                int office = told.officeOfAll(set);
                if (office < quota && office + told.officeOf(wig) >= quota) {
                    sets++;
                }
            }
        }
        return sets;
    }

    public int match(int head) {
        if (!told.isHead(head)) {
            return OTHERS;
        }
        fittings.measure(told, now.stands.season);
        return fittings.matched(told, now.stands.wornOut(told), head);
    }

    public int rests(int worth, int cost, int what) throws NoSuchElementException {
        if (worth < 0 || worth > 9 || cost < 0 || cost > 9 || what < NONE) {
            throw new NoSuchElementException("not 0 to 9, or no such number");
        }
        int found = 0;
        for (int one = 0; one <= MOST_PIECES; one++) {
            for (int other = 0; other <= MOST_PIECES; other++) {
                if (isBest(worth, cost, one, other) && isBest(worth, cost, other, one)) {
                    if (found == what) {
                        return 10 * one + other;
                    }
                    found++;
                }
            }
        }
        if (what != NONE) {
            throw new NoSuchElementException("fewer are at rest");
        }
        return found;
    }

    private static boolean isBest(int worth, int cost, int own, int other) {
        int gain = gainOf(worth, cost, own, other);
        for (int pieces = 0; pieces <= MOST_PIECES; pieces++) {
            if (gainOf(worth, cost, pieces, other) > gain) {
                return false;
            }
        }
        return true;
    }

    private static int gainOf(int worth, int cost, int own, int other) {
        return (own > other ? worth : 0) - cost * own;
    }

    public int horsehair(int many, int right, int wrong, int tests) throws NoSuchElementException {
        if (!isOfHundred(many) || !isOfHundred(right) || !isOfHundred(wrong) || tests < 1 || tests > 3) {
            throw new NoSuchElementException("not of a hundred, or not 1 to 3 tests");
        }
        long rightly = many;
        long wrongly = 100 - many;
        for (int i = 0; i < tests; i++) {
            rightly *= right;
            wrongly *= wrong;
        }
        long together = rightly + wrongly;
        if (together <= 0) {
            throw new NoSuchElementException("it is never told");
        }
        return (int) (rightly * 1000000 / together);
    }

    private static boolean isOfHundred(int number) {
        return number >= 0 && number <= 100;
    }

    public int centuries(int seed, int seasons, int what) {
        if (seed < 0 || seed > 9999 || seasons < 1 || seasons > 99 || what < 0 || what > 2) {
            return NONE;
        }
        trial.copy(now.stands);
        drawn = seed;
        int office = 0;
        int came = 0;
        for (int i = 0; i < seasons; i++) {
            drawPut();
            drawFever();
            came += trial.pass(told);
            office += told.officeOfAll(trial.worn(told));
        }
        return what == 0 ? office : what == 1 ? came : trial.wearOfAll(told);
    }

    private void drawPut() {
        if (told.wigs > 0 && told.heads > 0) {
            int wig = draw(told.wigs);
            int head = draw(told.heads);
            if (trial.canPut(told, wig, head)) {
                trial.place(wig, head);
            }
        }
    }

    private void drawFever() {
        if (draw(5) != 0) {
            return;
        }
        for (int head = 0; head < told.heads; head++) {
            int wig = trial.wigUpon(head);
            if (wig != NONE) {
                trial.place(wig, NONE);
                return;
            }
        }
    }

    private int draw(int below) {
        drawn = (drawn * 1103515245L + 12345L) % 2147483648L;
        return below > 0 ? (int) (drawn / 65536 % below) : 0;
    }

    public boolean mark(int mark, boolean back) {
        if (mark < 0 || mark >= MARKS || back && !marks[mark].laid) {
            return false;
        }
        if (back) {
            now.copy(marks[mark]);
            pastCount = 0;
        } else {
            marks[mark].copy(now);
            marks[mark].laid = true;
        }
        return true;
    }

    public int count(int what) {
        switch (what) {
            case 0: return told.wigs;
            case 1: return told.heads;
            case 2: return told.slack;
            case 3: return now.stands.season;
            case 4: return told.heatOf(now.stands.season);
            case 5: return now.stands.worn(told);
            case 6: return now.stands.wornOut(told);
            case 7: return told.officeOfAll(now.stands.worn(told));
            case 8: return now.years.count;
            case 9: return now.sayings.count;
            case 10: return now.tiltsTold();
            case 11: return pastCount;
            case 12: return tape.length;
            default: return NONE;
        }
    }

    /** What a token is: a word with a meaning of its own, a sign, or one of the last four. */
    private enum Word {
        WIG("wig", false), SIZE("size", false), OFFICE("office", false), LEAN("lean", false),
        HEAD("head", false), AGED("aged", false), HEATS("heats", false), SLACK("slack", false),
        SWELLS("swells", false), JUDGES("judges", false), PUT("put", false), OFF("off", false),
        MEND("mend", false), SEASON("season", false), PLAIN("plain", false), HOT("hot", false),
        BALD("bald", false), BOY("boy", false), NOT("not", false), AND("and", false), OR("or", false),
        HEAT("heat", true), YEARS("years", true), SORT("sort", true),
        WIGGED("wigged", true), HEADED("headed", true), HARD("hard", true),
        OPEN("(", false), CLOSE(")", false), LESS("<", false), SAME("=", false), PLUS("+", false),
        MINUS("-", false), TIMES("*", false), STOP(";", false),
        NAME("", true), NUMBER("", false), END("", false), WRONG("", false);

        private static final Word[] ALL = values();

        private final long packed;
        /** Facts are words only within an E: elsewhere they may be NAMES. */
        private final boolean canName;

        Word(String spelled, boolean canName) {
            long signs = 0;
            for (int i = 0; i < spelled.length(); i++) {
                signs = signs << 7 | spelled.charAt(i);
            }
            this.packed = signs;
            this.canName = canName;
        }

        /** The word, or the sign, packed so; otherwise the one given. */
        private static Word spelled(long packed, Word otherwise) {
            for (int i = 0; i < ALL.length; i++) {
                if (ALL[i].packed == packed && packed != 0) {
                    return ALL[i];
                }
            }
            return otherwise;
        }
    }

    /** The TAPE, and its TOKENS, once it has been split. */
    private static final class Tape {
        private static final int LONGEST_WORD = 8;
        private static final int LONGEST_NUMBER = 4;

        private final char[] signs = new char[MOST_SIGNS];
        private int length;
        private final Word[] kinds = new Word[MOST_SIGNS + 1];
        private final int[] places = new int[MOST_SIGNS + 1];
        /** A NUMBER as it is; a WORD's letters, seven bits each: eight fit. */
        private final long[] values = new long[MOST_SIGNS + 1];
        private int tokens;

        private void clear() {
            length = 0;
        }

        private void add(long bytes) {
            for (int shift = 56; shift >= 0; shift -= 8) {
                char sign = (char) (bytes >>> shift & 255);
                if ((sign == 10 || sign >= 32 && sign <= 126) && length < MOST_SIGNS) {
                    signs[length] = sign;
                    length++;
                }
            }
        }

        private void split() {
            tokens = 0;
            int at = 0;
            for (int i = 0; i < MOST_SIGNS && at < length; i++) {
                int end = endOf(at);
                if (signs[at] != 10 && signs[at] != 32) {
                    addToken(at, end);
                }
                at = end;
            }
            addToken(Word.END, length, 0);
        }

        private int endOf(int at) {
            int end = at + 1;
            if (isLetter(signs[at])) {
                while (end < length && isLetter(signs[end])) {
                    end++;
                }
            } else if (isDigit(signs[at])) {
                while (end < length && isDigit(signs[end])) {
                    end++;
                }
            }
            return end;
        }

        private void addToken(int at, int end) {
            boolean isNumber = isDigit(signs[at]);
            if (end - at > (isNumber ? LONGEST_NUMBER : LONGEST_WORD)) {
                addToken(Word.WRONG, at, 0);
                return;
            }
            long value = 0;
            for (int i = at; i < end; i++) {
                value = isNumber ? value * 10 + (signs[i] - '0') : value << 7 | signs[i];
            }
            Word unknown = isLetter(signs[at]) ? Word.NAME : Word.WRONG;
            addToken(isNumber ? Word.NUMBER : Word.spelled(value, unknown), at, value);
        }

        private void addToken(Word kind, int place, long value) {
            if (tokens < kinds.length) {
                kinds[tokens] = kind;
                places[tokens] = place;
                values[tokens] = value;
                tokens++;
            }
        }

        private static boolean isLetter(char sign) {
            return sign >= 'a' && sign <= 'z';
        }

        private static boolean isDigit(char sign) {
            return sign >= '0' && sign <= '9';
        }
    }

    /** An E, told by its facts, as steps for a stack: numbers as they are, the rest below 0. */
    private static final class Law {
        private static final int FIRST = -1;
        private static final int SECOND = -2;
        private static final int THIRD = -3;
        private static final int NOT = -4;
        private static final int AND = -5;
        private static final int OR = -6;
        private static final int LESS = -7;
        private static final int SAME = -8;
        private static final int PLUS = -9;
        private static final int MINUS = -10;
        private static final int TIMES = -11;

        private final Word first;
        private final Word second;
        private final Word third;
        private final int[] steps = new int[MOST_SIGNS];
        /** Four operands may wait on each of five levels, and one comes: 21. */
        private final int[] stack = new int[24];
        private int length;
        private boolean isTold;

        private Law(Word first, Word second, Word third) {
            this.first = first;
            this.second = second;
            this.third = third;
        }

        private void clear() {
            length = 0;
            isTold = false;
        }

        private void add(int step) {
            if (length < steps.length) {
                steps[length] = step;
                length++;
            }
        }

        /** The step that a fact is, or 0. */
        private int factOf(Word word) {
            return word == first ? FIRST : word == second ? SECOND : word == third ? THIRD : 0;
        }

        private int worth(int one, int two, int three) {
            int top = 0;
            for (int i = 0; i < length; i++) {
                int step = steps[i];
                if (step >= THIRD && top < stack.length) {
                    stack[top] = step >= 0 ? step : step == FIRST ? one : step == SECOND ? two : three;
                    top++;
                } else if (step == NOT && top >= 1) {
                    stack[top - 1] = stack[top - 1] == 0 ? 1 : 0;
                } else if (step < NOT && top >= 2) {
                    top--;
                    stack[top - 1] = joined(step, stack[top - 1], stack[top]);
                }
            }
            return stack[0];
        }

        private static int joined(int step, int left, int right) {
            switch (step) {
                case AND: return left != 0 && right != 0 ? 1 : 0;
                case OR: return left != 0 || right != 0 ? 1 : 0;
                case LESS: return left < right ? 1 : 0;
                case SAME: return left == right ? 1 : 0;
                case PLUS: return left + right;
                case MINUS: return left - right;
                default: return left * right;
            }
        }
    }

    /** WIGS, HEADS, heats, slack and laws, as told. */
    private static final class Realm {
        private static final int WIG_SIZE = 0;
        private static final int OFFICE = 1;
        private static final int WIG_LEAN = 2;
        private static final int KIND = 0;
        private static final int HEAD_SIZE = 1;
        private static final int AGE = 2;
        private static final int HEAD_LEAN = 3;
        private static final int HOT = 1;
        private static final int BALD = 2;
        private static final int BOY = 3;
        private static final int MOST_HEATS = 12;
        private static final int MOST_SWELLING = 9;

        private int wigs;
        private int heads;
        private final long[] wigNames = new long[MOST];
        private final long[] headNames = new long[MOST];
        private final int[][] wigFacts = new int[MOST][3];
        private final int[][] headFacts = new int[MOST][4];
        private final int[] heats = new int[MOST_HEATS];
        private int heatsTold;
        private int slack = 1;
        private boolean isSlackTold;
        private final Law swells = new Law(Word.HEAT, Word.YEARS, Word.SORT);
        private final Law judges = new Law(Word.WIGGED, Word.HEADED, Word.HARD);

        private void clear() {
            wigs = 0;
            heads = 0;
            heatsTold = 0;
            slack = 1;
            isSlackTold = false;
            swells.clear();
            judges.clear();
        }

        private boolean isWig(int wig) {
            return wig >= 0 && wig < wigs;
        }

        private boolean isHead(int head) {
            return head >= 0 && head < heads;
        }

        private int wigNamed(long name) {
            return placeOf(name, wigNames, wigs);
        }

        private int headNamed(long name) {
            return placeOf(name, headNames, heads);
        }

        private static int placeOf(long name, long[] names, int count) {
            for (int i = 0; i < count && i < names.length; i++) {
                if (names[i] == name) {
                    return i;
                }
            }
            return NONE;
        }

        private int ofWig(int wig, int what) {
            return isWig(wig) ? wigFacts[wig][what] : 0;
        }

        private int ofHead(int head, int what) {
            return isHead(head) ? headFacts[head][what] : 0;
        }

        private int sizeOfWig(int wig) {
            return ofWig(wig, WIG_SIZE);
        }

        private int officeOf(int wig) {
            return ofWig(wig, OFFICE);
        }

        private int leanOfWig(int wig) {
            return ofWig(wig, WIG_LEAN);
        }

        private int officeOfAll(int bits) {
            int office = 0;
            for (int wig = 0; wig < wigs; wig++) {
                if ((bits >> wig & 1) == 1) {
                    office += officeOf(wig);
                }
            }
            return office;
        }

        private int heatOf(int season) {
            return heatsTold > 0 ? heats[Math.floorMod(season, heatsTold)] : 0;
        }

        private int girth(int head, int season) {
            int kind = ofHead(head, KIND);
            int heat = heatOf(season);
            int fours = season / 4;
            int swelling = kind == HOT ? 2 * heat : heat;
            if (swells.isTold) {
                swelling = swells.worth(heat, ofHead(head, AGE) + fours, kind);
            }
            int girth = ofHead(head, HEAD_SIZE)
                + Math.max(-MOST_SWELLING, Math.min(MOST_SWELLING, swelling));
            return kind == BOY ? girth + fours : kind == BALD ? girth - 1 : girth;
        }

        private boolean isFit(int wig, int head, int season) {
            return isTilt(sizeOfWig(wig) - girth(head, season));
        }

        /** Whether a WIG that is so much larger FITS. */
        private boolean isTilt(int larger) {
            return larger >= 0 && larger <= slack;
        }

        private boolean isFor(int lean, int head, int hard) {
            int headed = ofHead(head, HEAD_LEAN);
            return judges.isTold ? judges.worth(lean, headed, hard) != 0 : lean * hard < headed * 9;
        }
    }

    /** Reads TOKENS as a REALM or as YEARS, up to the first FAULT. */
    private static final class Reader {
        private static final int CANT_STAND = 1;
        private static final int UNKNOWN = 2;
        private static final int TOLD = 3;
        private static final int NOT_AS_TOLD = 4;
        private static final int TOO_MANY = 5;
        private static final int DEEPEST = 4;
        /** Levels of an E that are chains of like ones. */
        private static final int TESTS = 0;
        private static final int PRODUCTS = 1;
        private static final int PARTS = 2;

        private final Tape tape;
        private int at;
        private int fault;

        private Reader(Tape tape) {
            this.tape = tape;
        }

        private int readRealm(Realm realm) {
            start();
            realm.clear();
            for (int i = 0; i < MOST_SIGNS && kind() != Word.END; i++) {
                if (!realmLine(realm)) {
                    return fault;
                }
            }
            return 0;
        }

        private int readYears(Realm realm, Years years) {
            start();
            years.count = 0;
            for (int i = 0; i < MOST_SIGNS && kind() != Word.END; i++) {
                if (!yearsLine(realm, years)) {
                    return fault;
                }
            }
            return 0;
        }

        private void start() {
            tape.split();
            at = 0;
            fault = 0;
        }

        private Word kind() {
            return at < tape.tokens ? tape.kinds[at] : Word.END;
        }

        private long value() {
            return at < tape.tokens ? tape.values[at] : 0;
        }

        private boolean fail(int kind) {
            int place = at < tape.tokens ? tape.places[at] : 0;
            fault = kind + 16 * place;
            return false;
        }

        private boolean take(Word word) {
            if (kind() != word) {
                return fail(CANT_STAND);
            }
            at++;
            return true;
        }

        private boolean realmLine(Realm realm) {
            Word word = kind();
            if (word == Word.WIG) {
                return wigLine(realm);
            }
            if (word == Word.HEAD) {
                return headLine(realm);
            }
            if (word == Word.HEATS) {
                return heatsLine(realm);
            }
            if (word == Word.SLACK) {
                return slackLine(realm);
            }
            if (word == Word.SWELLS) {
                return lawLine(realm.swells);
            }
            return word == Word.JUDGES ? lawLine(realm.judges) : fail(CANT_STAND);
        }

        private boolean wigLine(Realm realm) {
            int wig = realm.wigs;
            if (wig >= MOST) {
                return fail(TOO_MANY);
            }
            at++;
            long name = value();
            int[] facts = realm.wigFacts[wig];
            boolean isRight = newName(realm)
                && fact(Word.SIZE, 40, 79, facts, Realm.WIG_SIZE)
                && fact(Word.OFFICE, 0, 99, facts, Realm.OFFICE)
                && fact(Word.LEAN, 0, 9, facts, Realm.WIG_LEAN)
                && take(Word.STOP);
            if (isRight) {
                realm.wigNames[wig] = name;
                realm.wigs = wig + 1;
            }
            return isRight;
        }

        private boolean headLine(Realm realm) {
            int head = realm.heads;
            if (head >= MOST) {
                return fail(TOO_MANY);
            }
            at++;
            long name = value();
            int[] facts = realm.headFacts[head];
            boolean isRight = newName(realm)
                && headKind(facts)
                && fact(Word.SIZE, 40, 79, facts, Realm.HEAD_SIZE)
                && fact(Word.AGED, 0, 99, facts, Realm.AGE)
                && fact(Word.LEAN, 0, 9, facts, Realm.HEAD_LEAN)
                && take(Word.STOP);
            if (isRight) {
                realm.headNames[head] = name;
                realm.heads = head + 1;
            }
            return isRight;
        }

        private boolean newName(Realm realm) {
            if (!kind().canName) {
                return fail(CANT_STAND);
            }
            if (realm.wigNamed(value()) != NONE || realm.headNamed(value()) != NONE) {
                return fail(TOLD);
            }
            at++;
            return true;
        }

        private boolean headKind(int[] facts) {
            Word word = kind();
            if (word != Word.PLAIN && word != Word.HOT && word != Word.BALD && word != Word.BOY) {
                return fail(CANT_STAND);
            }
            facts[Realm.KIND] = word == Word.HOT ? Realm.HOT : word == Word.BALD ? Realm.BALD
                : word == Word.BOY ? Realm.BOY : 0;
            at++;
            return true;
        }

        private boolean fact(Word word, int least, int most, int[] facts, int what) {
            if (!take(word) || !isNumber(least, most)) {
                return false;
            }
            facts[what] = (int) value();
            at++;
            return true;
        }

        /** Looks at a NUMBER, and leaves it there. */
        private boolean isNumber(int least, int most) {
            if (kind() != Word.NUMBER) {
                return fail(CANT_STAND);
            }
            return value() >= least && value() <= most || fail(NOT_AS_TOLD);
        }

        private boolean heatsLine(Realm realm) {
            if (realm.heatsTold > 0) {
                return fail(TOLD);
            }
            at++;
            for (int i = 0; i < Realm.MOST_HEATS && (i == 0 || kind() == Word.NUMBER); i++) {
                if (!isNumber(0, 9)) {
                    return false;
                }
                realm.heats[i] = (int) value();
                realm.heatsTold = i + 1;
                at++;
            }
            if (kind() == Word.NUMBER) {
                return isNumber(0, 9) && fail(TOO_MANY);
            }
            return take(Word.STOP);
        }

        private boolean slackLine(Realm realm) {
            if (realm.isSlackTold) {
                return fail(TOLD);
            }
            at++;
            if (!isNumber(0, 9)) {
                return false;
            }
            realm.slack = (int) value();
            realm.isSlackTold = true;
            at++;
            return take(Word.STOP);
        }

        private boolean lawLine(Law law) {
            if (law.isTold) {
                return fail(TOLD);
            }
            at++;
            law.isTold = true;
            return chain(law, TESTS, 0) && take(Word.STOP);
        }

        /** Like ones joined from the left; depth: how many of not and ( ) are around. */
        private boolean chain(Law law, int level, int depth) {
            if (!link(law, level, depth)) {
                return false;
            }
            for (int i = 0; i < MOST_SIGNS; i++) {
                int joint = jointOf(level);
                if (joint == 0) {
                    return true;
                }
                at++;
                if (!link(law, level, depth)) {
                    return false;
                }
                law.add(joint);
            }
            return true;
        }

        private boolean link(Law law, int level, int depth) {
            if (level == TESTS) {
                return test(law, depth);
            }
            return level == PRODUCTS ? chain(law, PARTS, depth) : part(law, depth);
        }

        /** The step of the token that goes on with a chain, or 0. */
        private int jointOf(int level) {
            Word word = kind();
            if (level == TESTS) {
                return word == Word.AND ? Law.AND : word == Word.OR ? Law.OR : 0;
            }
            if (level == PRODUCTS) {
                return word == Word.PLUS ? Law.PLUS : word == Word.MINUS ? Law.MINUS : 0;
            }
            return word == Word.TIMES ? Law.TIMES : 0;
        }

        private boolean test(Law law, int depth) {
            if (!chain(law, PRODUCTS, depth)) {
                return false;
            }
            Word word = kind();
            if (word != Word.LESS && word != Word.SAME) {
                return true;
            }
            at++;
            if (!chain(law, PRODUCTS, depth)) {
                return false;
            }
            law.add(word == Word.LESS ? Law.LESS : Law.SAME);
            return true;
        }

        private boolean part(Law law, int depth) {
            Word word = kind();
            int fact = law.factOf(word);
            if (fact == 0 && word != Word.NUMBER && word != Word.NOT && word != Word.OPEN) {
                return fail(CANT_STAND);
            }
            if (depth > DEEPEST) {
                return fail(TOO_MANY);
            }
            int number = (int) value();
            at++;
            if (word == Word.OPEN) {
                return chain(law, TESTS, depth + 1) && take(Word.CLOSE);
            }
            if (word == Word.NOT && !part(law, depth + 1)) {
                return false;
            }
            law.add(word == Word.NOT ? Law.NOT : word == Word.NUMBER ? number : fact);
            return true;
        }

        private boolean yearsLine(Realm realm, Years years) {
            Word word = kind();
            if (word != Word.PUT && word != Word.OFF && word != Word.MEND && word != Word.SEASON) {
                return fail(CANT_STAND);
            }
            if (years.count >= MOST_LINES) {
                return fail(TOO_MANY);
            }
            at++;
            int wig = NONE;
            int head = NONE;
            if (word != Word.SEASON) {
                wig = realm.wigNamed(value());
                if (!oldName(wig)) {
                    return false;
                }
            }
            if (word == Word.PUT) {
                head = realm.headNamed(value());
                if (!oldName(head)) {
                    return false;
                }
            }
            years.add(word, wig, head);
            return take(Word.STOP);
        }

        private boolean oldName(int found) {
            if (!kind().canName) {
                return fail(CANT_STAND);
            }
            if (found == NONE) {
                return fail(UNKNOWN);
            }
            at++;
            return true;
        }
    }

    /** Where the WIGS are, how worn, and in which season. */
    private static final class Stands {
        private int season;
        private final int[] under = {NONE, NONE, NONE, NONE, NONE, NONE};
        private final int[] wear = new int[MOST];

        private void clear() {
            season = 0;
            for (int i = 0; i < MOST; i++) {
                under[i] = NONE;
                wear[i] = 0;
            }
        }

        private void copy(Stands from) {
            season = from.season;
            for (int i = 0; i < MOST; i++) {
                under[i] = from.under[i];
                wear[i] = from.wear[i];
            }
        }

        private int headUnder(int wig) {
            return wig >= 0 && wig < MOST ? under[wig] : NONE;
        }

        private int wearOf(int wig) {
            return wig >= 0 && wig < MOST ? wear[wig] : 0;
        }

        private int wigUpon(int head) {
            for (int wig = 0; wig < MOST; wig++) {
                if (head != NONE && under[wig] == head) {
                    return wig;
                }
            }
            return NONE;
        }

        private boolean canPut(Realm realm, int wig, int head) {
            return realm.isWig(wig) && realm.isHead(head) && under[wig] == NONE && wear[wig] < WORN_OUT
                && wigUpon(head) == NONE && realm.isFit(wig, head, season);
        }

        private boolean canTakeOff(Realm realm, int wig) {
            return realm.isWig(wig) && under[wig] != NONE;
        }

        private boolean canMend(Realm realm, int wig) {
            return realm.isWig(wig) && under[wig] == NONE;
        }

        /** On a HEAD, or with NONE on its stand. */
        private void place(int wig, int head) {
            if (wig >= 0 && wig < MOST) {
                under[wig] = head;
            }
        }

        private void makeNew(int wig) {
            if (wig >= 0 && wig < MOST) {
                wear[wig] = 0;
            }
        }

        /** A SEASON: how many came off. */
        private int pass(Realm realm) {
            for (int wig = 0; wig < realm.wigs; wig++) {
                if (under[wig] == NONE) {
                    wear[wig] = Math.min(WORN_OUT, wear[wig] + 1);
                }
            }
            season++;
            int came = 0;
            for (int wig = 0; wig < realm.wigs; wig++) {
                if (under[wig] != NONE && !realm.isFit(wig, under[wig], season)) {
                    under[wig] = NONE;
                    came++;
                }
            }
            return came;
        }

        /** WIGS on HEADS, as bits. */
        private int worn(Realm realm) {
            int bits = 0;
            for (int wig = 0; wig < realm.wigs; wig++) {
                if (under[wig] != NONE) {
                    bits |= 1 << wig;
                }
            }
            return bits;
        }

        private int wornOut(Realm realm) {
            int bits = 0;
            for (int wig = 0; wig < realm.wigs; wig++) {
                if (wear[wig] >= WORN_OUT) {
                    bits |= 1 << wig;
                }
            }
            return bits;
        }

        private int wearOfAll(Realm realm) {
            int all = 0;
            for (int wig = 0; wig < realm.wigs; wig++) {
                all += wear[wig];
            }
            return all;
        }
    }

    /** The lines of YEARS. */
    private static final class Years {
        private int count;
        private final Word[] deeds = new Word[MOST_LINES];
        private final int[] wigs = new int[MOST_LINES];
        private final int[] heads = new int[MOST_LINES];

        private void add(Word deed, int wig, int head) {
            if (count < MOST_LINES) {
                deeds[count] = deed;
                wigs[count] = wig;
                heads[count] = head;
                count++;
            }
        }

        private void copy(Years from) {
            count = from.count;
            for (int i = 0; i < count; i++) {
                deeds[i] = from.deeds[i];
                wigs[i] = from.wigs[i];
                heads[i] = from.heads[i];
            }
        }

        /** NONE: the line can't be; else how many WIGS came off by a season. */
        private int play(int line, Realm realm, Stands stands) {
            Word deed = deeds[line];
            int wig = wigs[line];
            if (deed == Word.SEASON) {
                return stands.pass(realm);
            }
            if (deed == Word.PUT && stands.canPut(realm, wig, heads[line])) {
                stands.place(wig, heads[line]);
                return 0;
            }
            if (deed == Word.OFF && stands.canTakeOff(realm, wig)) {
                stands.place(wig, NONE);
                return 0;
            }
            if (deed == Word.MEND && stands.canMend(realm, wig)) {
                stands.makeNew(wig);
                return 0;
            }
            return NONE;
        }
    }

    /** What is SAID of the WIG of an unknown lean. */
    private static final class Sayings {
        private int count;
        private final int[] heads = new int[MOST_SAID];
        private final int[] hards = new int[MOST_SAID];
        private final boolean[] fors = new boolean[MOST_SAID];

        private boolean add(int head, int hard, boolean isFor) {
            if (count >= MOST_SAID) {
                return false;
            }
            heads[count] = head;
            hards[count] = hard;
            fors[count] = isFor;
            count++;
            return true;
        }

        private void copy(Sayings from) {
            count = from.count;
            for (int i = 0; i < count; i++) {
                heads[i] = from.heads[i];
                hards[i] = from.hards[i];
                fors[i] = from.fors[i];
            }
        }

        /** LEANS by which all SAID is so, as bits. */
        private int possible(Realm realm) {
            int bits = 0;
            for (int lean = 0; lean <= 9; lean++) {
                boolean isSo = true;
                for (int i = 0; i < count && isSo; i++) {
                    isSo = realm.isFor(lean, heads[i], hards[i]) == fors[i];
                }
                if (isSo) {
                    bits |= 1 << lean;
                }
            }
            return bits;
        }
    }

    /** All that a MARK holds. */
    private static final class Affairs {
        private final Stands stands = new Stands();
        private final Years years = new Years();
        private final Sayings sayings = new Sayings();
        /** NONE where none is TOLD. */
        private final int[] tilts = {NONE, NONE, NONE, NONE, NONE, NONE};
        private boolean laid;

        private void clear() {
            stands.clear();
            years.count = 0;
            sayings.count = 0;
            forgetTilts();
        }

        private void forgetTilts() {
            for (int i = 0; i < MOST; i++) {
                tilts[i] = NONE;
            }
        }

        private int tiltsTold() {
            int told = 0;
            for (int i = 0; i < MOST; i++) {
                if (tilts[i] != NONE) {
                    told++;
                }
            }
            return told;
        }

        private void copy(Affairs from) {
            stands.copy(from.stands);
            years.copy(from.years);
            sayings.copy(from.sayings);
            for (int i = 0; i < MOST; i++) {
                tilts[i] = from.tilts[i];
            }
        }
    }

    /** Who FITS whom in one season, and what follows from it. */
    private static final class Fittings {
        private int wigs;
        private int heads;
        /** By WIG, HEAD; NONE where it does not FIT. */
        private final int[][] tilts = new int[MOST][MOST];
        /** Ways to have just this set of HEADS under the WIGS laid so far. */
        private final int[] ways = new int[SETS];
        private final int[] like = new int[10];
        private final int[] kept = new int[MOST];
        private final int[] asked = new int[MOST];

        private void measure(Realm realm, int season) {
            wigs = realm.wigs;
            heads = realm.heads;
            for (int head = 0; head < heads; head++) {
                int girth = realm.girth(head, season);
                for (int wig = 0; wig < wigs; wig++) {
                    int larger = realm.sizeOfWig(wig) - girth;
                    tilts[wig][head] = realm.isTilt(larger) ? larger : NONE;
                }
            }
        }

        private int tiltOf(int wig, int head) {
            return wig >= 0 && wig < wigs && head >= 0 && head < heads ? tilts[wig][head] : NONE;
        }

        /** All WIGS that are TOLD of, but for one. */
        private void layWays(int[] told, int without) {
            for (int set = 0; set < SETS; set++) {
                ways[set] = set == 0 ? 1 : 0;
            }
            for (int wig = 0; wig < wigs; wig++) {
                if (told[wig] != NONE && wig != without) {
                    layUnder(wig, told[wig]);
                }
            }
        }

        private void layUnder(int wig, int tilt) {
            // From the greatest down, as each set grows out of lesser ones.
            for (int set = SETS - 1; set >= 0; set--) {
                int sum = 0;
                for (int head = 0; head < heads; head++) {
                    if ((set >> head & 1) == 1 && tilts[wig][head] == tilt) {
                        sum += ways[set ^ 1 << head];
                    }
                }
                ways[set] = sum;
            }
        }

        /** Ways that leave these HEADS bare. */
        private int waysWithout(int bare) {
            int sum = 0;
            for (int set = 0; set < SETS; set++) {
                if ((set & bare) == 0) {
                    sum += ways[set];
                }
            }
            return sum;
        }

        /** Of the ways with one more WIG. */
        private int allWays(int wig) {
            int all = 0;
            for (int head = 0; head < heads; head++) {
                if (tiltOf(wig, head) != NONE) {
                    all += waysWithout(1 << head);
                }
            }
            return all;
        }

        /** Of the ways with one more WIG, those with its commonest TILT. */
        private int greatestLikeWays(int wig) {
            for (int i = 0; i < like.length; i++) {
                like[i] = 0;
            }
            int greatest = 0;
            for (int head = 0; head < heads; head++) {
                int tilt = tiltOf(wig, head);
                if (tilt >= 0 && tilt < like.length) {
                    like[tilt] += waysWithout(1 << head);
                    greatest = Math.max(greatest, like[tilt]);
                }
            }
            return greatest;
        }

        /** MATCH: the WIG that a HEAD has at last. */
        private int matched(Realm realm, int wornOut, int wanted) {
            for (int i = 0; i < MOST; i++) {
                kept[i] = NONE;
                asked[i] = wornOut;
            }
            // In each round one HEAD asks one WIG more, until all have one or have asked all.
            for (int round = 0; round < MOST * MOST; round++) {
                for (int head = 0; head < heads; head++) {
                    if (wigKeeping(head) == NONE) {
                        askNext(realm, head);
                    }
                }
            }
            return wigKeeping(wanted);
        }

        private int wigKeeping(int head) {
            for (int wig = 0; wig < wigs; wig++) {
                if (kept[wig] == head) {
                    return wig;
                }
            }
            return NONE;
        }

        private void askNext(Realm realm, int head) {
            int best = NONE;
            for (int wig = 0; wig < wigs; wig++) {
                if ((asked[head] >> wig & 1) == 0 && tilts[wig][head] != NONE
                    && (best == NONE || realm.officeOf(wig) > realm.officeOf(best))) {
                    best = wig;
                }
            }
            if (best == NONE) {
                return;
            }
            asked[head] |= 1 << best;
            int rival = kept[best];
            if (rival == NONE || tilts[best][head] < tilts[best][rival]
                || tilts[best][head] == tilts[best][rival] && head < rival) {
                kept[best] = head;
            }
        }
    }

    /** Of rows of choices, one a step or none, the first one with the most gain. */
    private static final class Rows {
        private int steps;
        /** Whether a choice may be made again, then without gain. */
        private boolean isAgain;
        private final int[] opened = new int[MOST];
        private final int[][] gain = new int[MOST][MOST];
        /** By step, and what has been chosen ahead of it: the most gain from there. */
        private final int[][] best = new int[MOST + 1][SETS];
        private final int[] row = new int[MOST];

        private void begin(int steps, boolean isAgain) {
            this.steps = Math.max(0, Math.min(MOST, steps));
            this.isAgain = isAgain;
            for (int i = 0; i < MOST; i++) {
                opened[i] = 0;
                row[i] = NONE;
            }
        }

        private void open(int step, int choice) {
            if (step >= 0 && step < MOST) {
                opened[step] |= 1 << choice;
            }
        }

        private void gains(int step, int choice, int amount) {
            if (step >= 0 && step < MOST && choice >= 0 && choice < MOST) {
                gain[step][choice] = amount;
            }
        }

        private int chosen(int step) {
            return step >= 0 && step < MOST ? row[step] : NONE;
        }

        private int solve() {
            for (int set = 0; set < SETS; set++) {
                best[steps][set] = 0;
            }
            for (int step = steps - 1; step >= 0; step--) {
                for (int set = 0; set < SETS; set++) {
                    int most = best[step + 1][set];
                    for (int choice = 0; choice < MOST; choice++) {
                        most = Math.max(most, through(step, set, choice));
                    }
                    best[step][set] = most;
                }
            }
            keepFirstRow();
            return best[0][0];
        }

        private void keepFirstRow() {
            int set = 0;
            for (int step = 0; step < steps; step++) {
                int most = best[step][set];
                for (int choice = 0; choice < MOST && row[step] == NONE; choice++) {
                    if (through(step, set, choice) == most) {
                        row[step] = choice;
                        set |= 1 << choice;
                    }
                }
            }
        }

        /** The most gain by this choice; NONE where it can't be made. */
        private int through(int step, int set, int choice) {
            boolean isMade = (set >> choice & 1) == 1;
            if ((opened[step] >> choice & 1) == 0 || isMade && !isAgain) {
                return NONE;
            }
            return (isMade ? 0 : gain[step][choice]) + best[step + 1][set | 1 << choice];
        }
    }
}
