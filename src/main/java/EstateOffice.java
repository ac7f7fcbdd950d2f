import java.util.Arrays;

/**
 * An estate office: what the dead leave is parted among their kin by a law told as a text.
 *
 * <p>Every row is made once, in a constructor, and used again: a call makes no objects. Sets of
 * persons are the bits of an int (30 persons at most), fractions are longs (see Ratio).
 */
public final class EstateOffice {
    public static final int NONE = -1;

    private static final int SPENT_ANSWER = -2;
    private static final int LAST_OF_DAYS = 100000;
    private static final int MOST_WORTH = 100000;
    private static final int MOST_BELOW = 1000;
    private static final int MOST_PERSONS = 30;
    private static final int MOST_MATES = 60;
    private static final int MOST_CLAIMS = 60;
    private static final int MOST_BYTES = 2000;
    private static final int BYTES_OF_A_FEED = 20;
    private static final int MOST_TOKENS = 600;
    private static final int MOST_KINS = 20;
    private static final int MOST_RULES = 30;
    private static final int MOST_STEPS_OF_A_PATH = 8;
    private static final int MOST_NAMES_OF_A_RULE = 8;
    private static final int MALE = 0;
    private static final int FEMALE = 1;

    private final Text text;
    private final Reader reader;
    private final Register people;
    private final Claims debts;
    private final Claims legacies;
    private final Kinship kinship;
    private final Settlement settlement;
    private final History history;
    private final Estate[] settled;
    private final Estate draft;
    private final Estate hand;
    private Law law;

    public EstateOffice() {
        Text newText = new Text();
        Register newPeople = new Register();
        Claims newDebts = new Claims();
        Claims newLegacies = new Claims();
        Kinship newKinship = new Kinship(newPeople);
        text = newText;
        reader = new Reader(newText);
        people = newPeople;
        debts = newDebts;
        legacies = newLegacies;
        kinship = newKinship;
        settlement = new Settlement(newPeople, newDebts, newLegacies, new Parting(newKinship));
        history = new History();
        settled = new Estate[MOST_PERSONS];
        for (int p = 0; p < MOST_PERSONS; p++) {
            settled[p] = new Estate();
        }
        draft = new Estate();
        hand = new Estate();
        law = new Law();
    }

    public int feed(int a, int b, int c, int d, int e) {
        if (text.length > MOST_BYTES - BYTES_OF_A_FEED) {
            return NONE;
        }
        text.add(a);
        text.add(b);
        text.add(c);
        text.add(d);
        text.add(e);
        return text.length;
    }

    public int back(int n) {
        if (n < 0 || n > text.length) {
            return NONE;
        }
        text.length -= n;
        return text.length;
    }

    public int read() {
        int fault = reader.readText();
        text.length = 0;
        if (fault == Reader.NO_FAULT) {
            law = reader.exchange(law);
            kinship.forget();
        }
        return fault;
    }

    public int place() {
        return reader.faultPlace;
    }

    public int person(int sex, int mother, int father, int born) {
        if (people.size >= MOST_PERSONS || (sex != MALE && sex != FEMALE) || !isDay(born)) {
            return NONE;
        }
        if (!people.fitsAsParent(mother, FEMALE, born) || !people.fitsAsParent(father, MALE, born)) {
            return NONE;
        }
        kinship.forget();
        return people.addPerson(sex, mother, father, born);
    }

    public boolean mates(int a, int b, int from, int until) {
        if (!people.has(a) || !people.has(b) || a == b || people.mateCount >= MOST_MATES) {
            return false;
        }
        if (!isDay(from) || (until != NONE && (!isDay(until) || until <= from))) {
            return false;
        }
        kinship.forget();
        people.addMates(a, b, from, until);
        return true;
    }

    public boolean wealth(int p, int v) {
        if (!people.hasUndead(p) || v < 0 || v > MOST_WORTH) {
            return false;
        }
        people.worth[p] = Ratio.of(v, 1);
        return true;
    }

    public boolean owes(int p, int q, int v) {
        if (!people.hasUndead(p) || (q != NONE && !people.has(q)) || p == q || v < 1 || v > MOST_WORTH) {
            return false;
        }
        return debts.add(p, q, Ratio.of(v, 1));
    }

    public boolean leaves(int p, int q, int above, int below) {
        if (!people.hasUndead(p) || !people.has(q) || p == q) {
            return false;
        }
        if (below < 1 || below > MOST_BELOW || above < 1 || above > below) {
            return false;
        }
        return legacies.add(p, q, Ratio.of(above, below));
    }

    public boolean dies(int p) {
        if (!people.hasUndead(p) || holds(people.listed, p)) {
            return false;
        }
        people.listed |= 1 << p;
        return true;
    }

    public int settle(int day) {
        int dying = people.listed;
        if (dying == 0 || !history.allows(day) || (dying & ~people.bornBy(day)) != 0) {
            return NONE;
        }
        kinship.refresh(law, day);
        settlement.begin(history);
        int living = people.livingOn(day) & ~dying;
        for (int p = 0; p < people.size && p < MOST_PERSONS; p++) {
            Estate place = settled[p];
            if (holds(dying, p) && place != null && !settlement.workOut(law, p, day, living, place)) {
                return SPENT_ANSWER;
            }
        }
        history.enter(people, dying, day);
        settlement.carryOut(history);
        return Integer.bitCount(dying);
    }

    public boolean undo() {
        return history.takeBack(people);
    }

    public int would(int p, int day) {
        if (!people.hasUndead(p) || !history.allows(day) || !holds(people.bornBy(day), p)) {
            return NONE;
        }
        kinship.refresh(law, day);
        settlement.begin(history);
        int living = people.livingOn(day) & ~(1 << p);
        if (!settlement.workOut(law, p, day, living, draft)) {
            return SPENT_ANSWER;
        }
        hand.copy(draft);
        return 0;
    }

    public boolean open(int p) {
        if (!people.has(p) || people.hasUndead(p)) {
            return false;
        }
        Estate place = settled[p];
        if (place == null) {
            return false;
        }
        hand.copy(place);
        return true;
    }

    public long estate(int what) {
        return hand.figure(what);
    }

    public long got(int q, int what) {
        return hand.figureOf(q, what);
    }

    public int why(int q) {
        return hand.has(q) ? hand.reason[q] : NONE;
    }

    public int rule(int q) {
        return hand.has(q) ? hand.reasonRule[q] : NONE;
    }

    public int kin(int k, int d, int day, int i) {
        if (k < 0 || k >= law.kinCount || !people.has(d) || !isDay(day) || i < 0) {
            return NONE;
        }
        kinship.refresh(law, day);
        return nth(kinship.kinOf(k, d), i);
    }

    public long told(int p, int what) {
        if (!people.has(p)) {
            return NONE;
        }
        switch (what) {
            case 0: return people.sex[p];
            case 1: return people.mother[p];
            case 2: return people.father[p];
            case 3: return people.born[p];
            case 4: return people.died[p];
            case 5: return holds(people.listed, p) ? 1 : 0;
            case 6: return Ratio.upper(people.worth[p]);
            case 7: return Ratio.lower(people.worth[p]);
            default: return NONE;
        }
    }

    public long outside(int who, int what) {
        if ((who != 0 && who != 1) || (what != 0 && what != 1)) {
            return NONE;
        }
        long all = who == 0 ? history.strangers : history.crown;
        return what == 0 ? Ratio.upper(all) : Ratio.lower(all);
    }

    public int count(int what) {
        switch (what) {
            case 0: return people.size;
            case 1: return people.mateCount;
            case 2: return debts.size;
            case 3: return legacies.size;
            case 4: return law.kinCount;
            case 5: return law.ruleCount;
            case 6: return Integer.bitCount(people.listed);
            case 7: return people.deadCount();
            case 8: return history.deaths;
            case 9: return history.lastDay;
            case 10: return text.length;
            default: return NONE;
        }
    }

    private static boolean isDay(int day) {
        return day >= 0 && day <= LAST_OF_DAYS;
    }

    private static boolean holds(int set, int x) {
        return x >= 0 && x < MOST_PERSONS && (set >> x & 1) != 0;
    }

    /** The i-th member of a set, by numbers. */
    private static int nth(int set, int i) {
        int ahead = 0;
        for (int x = 0; x < MOST_PERSONS; x++) {
            if (holds(set, x)) {
                if (ahead == i) {
                    return x;
                }
                ahead++;
            }
        }
        return NONE;
    }

    /**
     * Exact fractions in lowest terms, each in one long, so that none is an object: the upper part
     * (at most 10^12, 40 bits) above the lower one (at most 10^6, 20 bits). What goes beyond is
     * SPENT, and so is all that is made of it.
     */
    private static final class Ratio {
        static final long SPENT = -1L;
        static final long MOST_UPPER = 1000000000000L;
        static final long MOST_LOWER = 1000000L;
        static final int LOWER_BITS = 20;
        static final long LOWER_MASK = (1L << LOWER_BITS) - 1;
        static final long ZERO = 1L;
        static final long ONE = (1L << LOWER_BITS) | 1L;

        static long upper(long x) {
            return x >> LOWER_BITS;
        }

        static long lower(long x) {
            return x & LOWER_MASK;
        }

        static boolean isSpent(long x) {
            return x < 0;
        }

        static boolean isPositive(long x) {
            return upper(x) > 0;
        }

        static long of(long above, long below) {
            if (above < 0 || below <= 0) {
                return SPENT;
            }
            long common = commonDivisor(above, below);
            if (common <= 0) {
                return SPENT;
            }
            long up = above / common;
            long low = below / common;
            return up > MOST_UPPER || low > MOST_LOWER ? SPENT : up << LOWER_BITS | low;
        }

        static long plus(long x, long y) {
            if (isSpent(x) || isSpent(y)) {
                return SPENT;
            }
            return of(upper(x) * lower(y) + upper(y) * lower(x), lower(x) * lower(y));
        }

        static long minus(long x, long y) {
            if (isSpent(x) || isSpent(y)) {
                return SPENT;
            }
            return of(upper(x) * lower(y) - upper(y) * lower(x), lower(x) * lower(y));
        }

        /** Divides crosswise ahead of multiplying: the product of two upper parts may pass 2^63. */
        static long times(long x, long y) {
            if (isSpent(x) || isSpent(y)) {
                return SPENT;
            }
            long one = commonDivisor(upper(x), lower(y));
            long other = commonDivisor(upper(y), lower(x));
            if (one <= 0 || other <= 0) {
                return SPENT;
            }
            long up = upper(x) / one;
            long factor = upper(y) / other;
            if (up > 0 && factor > MOST_UPPER / up) {
                return SPENT;
            }
            return of(up * factor, (lower(x) / other) * (lower(y) / one));
        }

        static long over(long x, long y) {
            if (isSpent(x) || isSpent(y)) {
                return SPENT;
            }
            return of(upper(x) * lower(y), lower(x) * upper(y));
        }

        static boolean isAbove(long x, long y) {
            return upper(x) * lower(y) > upper(y) * lower(x);
        }

        static long lesser(long x, long y) {
            return isAbove(x, y) ? y : x;
        }

        private static long commonDivisor(long a, long b) {
            // Euclid's way halves a number in two turns, so 128 are more than a long needs.
            for (int turn = 0; turn < 128 && b != 0; turn++) {
                long left = a % b;
                a = b;
                b = left;
            }
            return a;
        }
    }

    /** The tape, and the tokens that its bytes make. */
    private static final class Text {
        static final int KIN = 0;
        static final int FIXED = 1;
        static final int EACH = 2;
        static final int IF = 3;
        static final int NOT = 4;
        static final int BARS = 5;
        static final int REST = 6;
        static final int BACK = 7;
        static final int STEPS = 8;
        static final int WILL = 9;
        static final int CHILD = 10;
        static final int MOTHER = 11;
        static final int FATHER = 12;
        static final int MATE = 13;
        static final int WORDS = 14;
        static final int NAME = 14;
        static final int INT = 15;
        static final int END = 16;
        static final int NO_TOKEN = 17;
        static final String SIGNS = "=|.,;/";
        static final int LONGEST_NAME = 10;
        static final int LONGEST_INT = 3;
        // The numbers that nameNumber() makes of these names.
        static final long NAME_M = 'm' - 'a' + 1;
        static final long NAME_F = 'f' - 'a' + 1;

        final byte[] bytes = new byte[MOST_BYTES];
        int length;
        int size;
        // The kind of a sign is its byte, which is above all the kinds told here.
        final int[] kinds = new int[MOST_TOKENS + 1];
        final int[] starts = new int[MOST_TOKENS + 1];
        // What an INT counts, or a number that no other NAME has.
        final long[] values = new long[MOST_TOKENS + 1];

        void add(int four) {
            for (int shift = 24; shift >= 0; shift -= 8) {
                if (length >= 0 && length < MOST_BYTES) {
                    bytes[length] = (byte) (four >> shift);
                    length++;
                }
            }
        }

        int startAt(int token) {
            return token >= 0 && token < size && token <= MOST_TOKENS ? starts[token] : length;
        }

        /** Finds the tokens up to the end, what is none, or the one that is too many. */
        void split() {
            size = 0;
            int at = skipBlanks(0);
            for (int turn = 0; turn <= MOST_TOKENS && at < length; turn++) {
                int end = tokenEnd(at);
                int kind = kindOf(at, end);
                kinds[turn] = kind;
                starts[turn] = at;
                values[turn] = kind == INT ? number(at, end) : kind == NAME ? nameNumber(at, end) : 0;
                size = turn + 1;
                if (kind == NO_TOKEN) {
                    return;
                }
                at = skipBlanks(end);
            }
        }

        private int byteAt(int at) {
            return at >= 0 && at < length && at < MOST_BYTES ? bytes[at] : 0;
        }

        private int skipBlanks(int from) {
            int at = from;
            while (at < length && isBlank(byteAt(at))) {
                at++;
            }
            return at;
        }

        private int tokenEnd(int from) {
            int at = from + 1;
            if (isLetter(byteAt(from))) {
                while (at < length && (isLetter(byteAt(at)) || isDigit(byteAt(at)))) {
                    at++;
                }
            } else if (isDigit(byteAt(from))) {
                while (at < length && isDigit(byteAt(at))) {
                    at++;
                }
            }
            return at;
        }

        private int kindOf(int from, int end) {
            int first = byteAt(from);
            if (isLetter(first)) {
                return end - from > LONGEST_NAME ? NO_TOKEN : wordKind(from, end);
            }
            if (isDigit(first)) {
                return end - from > LONGEST_INT ? NO_TOKEN : INT;
            }
            return first > 0 && SIGNS.indexOf((char) first) >= 0 ? first : NO_TOKEN;
        }

        private int wordKind(int from, int end) {
            for (int kind = 0; kind < WORDS; kind++) {
                if (spells(from, end, word(kind))) {
                    return kind;
                }
            }
            return NAME;
        }

        private boolean spells(int from, int end, String word) {
            if (word.length() != end - from) {
                return false;
            }
            for (int i = 0; i < word.length(); i++) {
                if (word.charAt(i) != byteAt(from + i)) {
                    return false;
                }
            }
            return true;
        }

        private static String word(int kind) {
            switch (kind) {
                case KIN: return "kin";
                case FIXED: return "fixed";
                case EACH: return "each";
                case IF: return "if";
                case NOT: return "not";
                case BARS: return "bars";
                case REST: return "rest";
                case BACK: return "back";
                case STEPS: return "steps";
                case WILL: return "will";
                case CHILD: return "child";
                case MOTHER: return "mother";
                case FATHER: return "father";
                case MATE: return "mate";
                default: return "";
            }
        }

        private long number(int from, int end) {
            long number = 0;
            for (int at = from; at < end; at++) {
                number = number * 10 + byteAt(at) - '0';
            }
            return number;
        }

        // Ten signs of 36 kinds fit a long: names are compared as numbers.
        private long nameNumber(int from, int end) {
            long number = 0;
            for (int at = from; at < end; at++) {
                number = number * 37 + signNumber(byteAt(at));
            }
            return number;
        }

        private static int signNumber(int sign) {
            return isLetter(sign) ? sign - 'a' + 1 : sign - '0' + 27;
        }

        private static boolean isLetter(int sign) {
            return sign >= 'a' && sign <= 'z';
        }

        private static boolean isDigit(int sign) {
            return sign >= '0' && sign <= '9';
        }

        private static boolean isBlank(int sign) {
            return sign == ' ' || sign == 9 || sign == 10 || sign == 13;
        }
    }

    /**
     * Reads a text in one walk over its tokens. SYNTAX and ROOM end the walk at once; the first of
     * the other faults is only noted, since it counts if none of those comes behind it.
     */
    private static final class Reader {
        static final int NO_FAULT = 0;
        static final int SYNTAX = 1;
        static final int ROOM = 2;
        static final int TWICE = 3;
        static final int UNKNOWN = 4;
        static final int WRONG = 5;

        final Text text;
        final long[] names = new long[MOST_KINS];
        Law draft = new Law();
        int next;
        // The kind and the value of the token that is next.
        int kind;
        long value;
        int fault;
        int faultPlace = NONE;
        int notedFault;
        int notedToken;
        int found;
        long part;

        Reader(Text text) {
            this.text = text;
        }

        /** The number of the fault; without one the law stands in draft. */
        int readText() {
            text.split();
            draft.clear();
            fault = NO_FAULT;
            notedFault = NO_FAULT;
            goTo(0);
            boolean going = true;
            for (int turn = 0; turn <= MOST_TOKENS && going && kind != Text.END; turn++) {
                going = takeTell();
            }
            if (fault != NO_FAULT) {
                faultPlace = text.startAt(next);
            } else {
                fault = notedFault;
                faultPlace = fault == NO_FAULT ? NONE : text.startAt(notedToken);
            }
            return fault;
        }

        /** Hands out the law that was read, and keeps the old one's rows for the next text. */
        Law exchange(Law old) {
            Law read = draft;
            draft = old;
            return read;
        }

        private void goTo(int token) {
            next = token;
            boolean isThere = token >= 0 && token < text.size && token <= MOST_TOKENS;
            kind = isThere ? text.kinds[token] : Text.END;
            value = isThere ? text.values[token] : 0;
        }

        private boolean fail(int number) {
            fault = number;
            return false;
        }

        private void note(int number, int token) {
            if (notedFault == NO_FAULT) {
                notedFault = number;
                notedToken = token;
            }
        }

        private boolean take(int due) {
            if (kind != due || next >= MOST_TOKENS) {
                fault = kind != due ? SYNTAX : ROOM;
                return false;
            }
            goTo(next + 1);
            return true;
        }

        private int kinNamed(long name) {
            for (int k = 0; k < draft.kinCount && k < MOST_KINS; k++) {
                if (names[k] == name) {
                    return k;
                }
            }
            return NONE;
        }

        private boolean takeTell() {
            switch (kind) {
                case Text.KIN: return takeKin();
                case Text.FIXED: return takeFixed();
                case Text.BARS: return takeBars();
                case Text.REST: return takeList(Text.REST);
                case Text.BACK: return takeList(Text.BACK);
                case Text.STEPS: return takeSteps();
                case Text.WILL: return takeWill();
                default: return fail(SYNTAX);
            }
        }

        private boolean takeKin() {
            if (!take(Text.KIN) || !takeNewName() || !take('=') || !takePaths() || !take(';')) {
                return false;
            }
            draft.closeKin();
            return true;
        }

        /** The KIN counts as told only behind its own paths: till then its number is free. */
        private boolean takeNewName() {
            int number = draft.kinCount;
            if (kind == Text.NAME) {
                if (number < 0 || number >= MOST_KINS) {
                    return fail(ROOM);
                }
                if (kinNamed(value) != NONE) {
                    note(TWICE, next);
                }
                names[number] = value;
            }
            return take(Text.NAME);
        }

        private boolean takePaths() {
            int ahead = 0;
            for (int turn = 0; turn <= MOST_TOKENS; turn++) {
                if (!takeStep(ahead)) {
                    return false;
                }
                if (kind != '.' && kind != '|') {
                    return true;
                }
                ahead = kind == '.' ? ahead + 1 : 0;
                if (!take(kind)) {
                    return false;
                }
            }
            return fail(ROOM);
        }

        private boolean takeStep(int ahead) {
            int row = Kinship.rowOfWord(kind);
            if (row == NONE && kind != Text.NAME) {
                return fail(SYNTAX);
            }
            if (ahead >= MOST_STEPS_OF_A_PATH) {
                return fail(ROOM);
            }
            if (kind == Text.NAME) {
                findTold();
                row = Kinship.rowOfKin(found);
            }
            if (!take(kind)) {
                return false;
            }
            int sex = NONE;
            if (kind == Text.NAME && (value == Text.NAME_M || value == Text.NAME_F)) {
                sex = value == Text.NAME_M ? MALE : FEMALE;
                if (!take(Text.NAME)) {
                    return false;
                }
            }
            draft.addStep(row, sex, ahead == 0);
            return true;
        }

        /** The NAME that is next is of a KIN told ahead: its number comes to found (NONE without). */
        private void findTold() {
            found = kinNamed(value);
            if (found == NONE) {
                note(UNKNOWN, next);
            }
        }

        private boolean takeTold() {
            if (kind == Text.NAME) {
                findTold();
            }
            return take(Text.NAME);
        }

        private boolean takePart() {
            long above = value;
            if (!take(Text.INT) || !take('/')) {
                return false;
            }
            if (kind == Text.INT && (value == 0 || value < above)) {
                note(WRONG, next);
            }
            part = Ratio.of(above, value);
            return take(Text.INT);
        }

        private boolean takeRuleWord(int word) {
            if (draft.ruleCount >= MOST_RULES) {
                return fail(ROOM);
            }
            draft.addRule(word);
            return take(word);
        }

        private boolean takeFixed() {
            if (!takeRuleWord(Text.FIXED) || !takeTold()) {
                return false;
            }
            draft.addToList(found, 0);
            if (!takePart()) {
                return false;
            }
            boolean each = kind == Text.EACH;
            if (each && !take(Text.EACH)) {
                return false;
            }
            int ifKin = NONE;
            if (kind == Text.IF) {
                if (!take(Text.IF) || !takeTold()) {
                    return false;
                }
                ifKin = found;
            }
            int notKin = NONE;
            if (kind == Text.NOT) {
                if (!take(Text.NOT) || !takeTold()) {
                    return false;
                }
                notKin = found;
            }
            draft.setFixed(part, each, ifKin, notKin);
            return take(';');
        }

        private boolean takeBars() {
            if (!takeRuleWord(Text.BARS) || !takeTold()) {
                return false;
            }
            int first = found;
            int second = next;
            draft.addToList(first, 0);
            if (!takeTold()) {
                return false;
            }
            if (found == first) {
                note(WRONG, second);
            }
            draft.addToList(found, 0);
            return take(';');
        }

        private boolean takeList(int word) {
            if (!takeRuleWord(word)) {
                return false;
            }
            for (int ahead = 0; ahead <= MOST_NAMES_OF_A_RULE; ahead++) {
                if (!takeListed(word, ahead)) {
                    return false;
                }
                if (kind != ',') {
                    return take(';');
                }
                if (!take(',')) {
                    return false;
                }
            }
            return fail(ROOM);
        }

        private boolean takeListed(int word, int ahead) {
            if (kind == Text.NAME && ahead >= MOST_NAMES_OF_A_RULE) {
                return fail(ROOM);
            }
            int token = next;
            if (!takeTold()) {
                return false;
            }
            if (draft.lists(found)) {
                note(TWICE, token);
            }
            int weight = 0;
            if (word == Text.REST) {
                if (kind == Text.INT && value == 0) {
                    note(WRONG, next);
                }
                weight = (int) value;
                if (!take(Text.INT)) {
                    return false;
                }
            }
            draft.addToList(found, weight);
            return true;
        }

        private boolean takeSteps() {
            if (!take(Text.STEPS) || !takeTold()) {
                return false;
            }
            draft.setBySteps(found);
            return take(';');
        }

        private boolean takeWill() {
            if (!take(Text.WILL) || !takePart()) {
                return false;
            }
            draft.bound = part;
            return take(';');
        }
    }

    /** A law: the KINS' paths as one row of steps, and the rules with the KINS that each names. */
    private static final class Law {
        int kinCount;
        int stepCount;
        int bySteps;
        long bound = Ratio.ZERO;
        int ruleCount;
        final int[] kinStart = new int[MOST_KINS + 1];
        final int[] stepRow = new int[MOST_TOKENS];
        final int[] stepSex = new int[MOST_TOKENS];
        final boolean[] stepOpensPath = new boolean[MOST_TOKENS];
        final int[] ruleKind = new int[MOST_RULES];
        final long[] rulePart = new long[MOST_RULES];
        final boolean[] ruleEach = new boolean[MOST_RULES];
        final int[] ruleIf = new int[MOST_RULES];
        final int[] ruleNot = new int[MOST_RULES];
        final int[] listSize = new int[MOST_RULES];
        final int[][] listKin = new int[MOST_RULES][MOST_NAMES_OF_A_RULE];
        final int[][] listWeight = new int[MOST_RULES][MOST_NAMES_OF_A_RULE];

        void clear() {
            kinCount = 0;
            stepCount = 0;
            bySteps = 0;
            bound = Ratio.ZERO;
            ruleCount = 0;
        }

        void addStep(int row, int sex, boolean opensPath) {
            if (stepCount < 0 || stepCount >= MOST_TOKENS) {
                return;
            }
            stepRow[stepCount] = row;
            stepSex[stepCount] = sex;
            stepOpensPath[stepCount] = opensPath;
            stepCount++;
        }

        void closeKin() {
            if (kinCount >= 0 && kinCount < MOST_KINS) {
                kinCount++;
                kinStart[kinCount] = stepCount;
            }
        }

        void addRule(int kind) {
            if (ruleCount < 0 || ruleCount >= MOST_RULES) {
                return;
            }
            ruleKind[ruleCount] = kind;
            rulePart[ruleCount] = Ratio.ZERO;
            ruleEach[ruleCount] = false;
            ruleIf[ruleCount] = NONE;
            ruleNot[ruleCount] = NONE;
            listSize[ruleCount] = 0;
            ruleCount++;
        }

        void setFixed(long part, boolean each, int ifKin, int notKin) {
            int rule = ruleCount - 1;
            if (rule < 0 || rule >= MOST_RULES) {
                return;
            }
            rulePart[rule] = part;
            ruleEach[rule] = each;
            ruleIf[rule] = ifKin;
            ruleNot[rule] = notKin;
        }

        /** One KIN more of the latest rule. */
        void addToList(int kin, int weight) {
            int rule = ruleCount - 1;
            if (rule < 0 || rule >= MOST_RULES) {
                return;
            }
            int at = listSize[rule];
            if (at < 0 || at >= MOST_NAMES_OF_A_RULE) {
                return;
            }
            listKin[rule][at] = kin;
            listWeight[rule][at] = weight;
            listSize[rule] = at + 1;
        }

        /** Whether the latest rule has this KIN. */
        boolean lists(int kin) {
            int rule = ruleCount - 1;
            for (int i = 0; i < sizeOf(rule); i++) {
                if (kinIn(rule, i) == kin) {
                    return true;
                }
            }
            return false;
        }

        void setBySteps(int kin) {
            if (kin >= 0 && kin < MOST_KINS) {
                bySteps |= 1 << kin;
            }
        }

        int startOf(int kin) {
            return kin > 0 && kin <= MOST_KINS ? kinStart[kin] : 0;
        }

        boolean isKind(int rule, int kind) {
            return rule >= 0 && rule < MOST_RULES && ruleKind[rule] == kind;
        }

        int sizeOf(int rule) {
            return rule >= 0 && rule < MOST_RULES ? listSize[rule] : 0;
        }

        int kinIn(int rule, int at) {
            return at >= 0 && at < MOST_NAMES_OF_A_RULE && at < sizeOf(rule) ? listKin[rule][at] : NONE;
        }

        int weightIn(int rule, int at) {
            return at >= 0 && at < MOST_NAMES_OF_A_RULE && at < sizeOf(rule) ? listWeight[rule][at] : 0;
        }
    }

    /** The persons and mates that were told, and who is listed for the next death. */
    private static final class Register {
        int size;
        int listed;
        int mateCount;
        final int[] sex = new int[MOST_PERSONS];
        final int[] mother = new int[MOST_PERSONS];
        final int[] father = new int[MOST_PERSONS];
        final int[] born = new int[MOST_PERSONS];
        final int[] died = new int[MOST_PERSONS];
        final long[] worth = new long[MOST_PERSONS];
        final int[] mateOne = new int[MOST_MATES];
        final int[] mateOther = new int[MOST_MATES];
        final int[] mateFrom = new int[MOST_MATES];
        final int[] mateUntil = new int[MOST_MATES];

        boolean has(int p) {
            return p >= 0 && p < size && p < MOST_PERSONS;
        }

        boolean hasUndead(int p) {
            return has(p) && died[p] == NONE;
        }

        boolean fitsAsParent(int p, int dueSex, int childBorn) {
            return p == NONE || has(p) && sex[p] == dueSex && born[p] < childBorn;
        }

        int addPerson(int itsSex, int itsMother, int itsFather, int itsBorn) {
            int number = size;
            if (number < 0 || number >= MOST_PERSONS) {
                return NONE;
            }
            sex[number] = itsSex;
            mother[number] = itsMother;
            father[number] = itsFather;
            born[number] = itsBorn;
            died[number] = NONE;
            worth[number] = Ratio.ZERO;
            size++;
            return number;
        }

        void addMates(int a, int b, int from, int until) {
            if (mateCount < 0 || mateCount >= MOST_MATES) {
                return;
            }
            mateOne[mateCount] = a;
            mateOther[mateCount] = b;
            mateFrom[mateCount] = from;
            mateUntil[mateCount] = until;
            mateCount++;
        }

        boolean areMates(int pair, int day) {
            return pair >= 0 && pair < mateCount && pair < MOST_MATES && mateFrom[pair] <= day
                && (mateUntil[pair] == NONE || day < mateUntil[pair]);
        }

        int bornBy(int day) {
            int set = 0;
            for (int p = 0; p < size && p < MOST_PERSONS; p++) {
                set |= born[p] <= day ? 1 << p : 0;
            }
            return set;
        }

        int livingOn(int day) {
            int set = bornBy(day);
            for (int p = 0; p < size && p < MOST_PERSONS; p++) {
                if (died[p] != NONE && died[p] <= day) {
                    set &= ~(1 << p);
                }
            }
            return set;
        }

        int ofSex(int which) {
            int set = 0;
            for (int p = 0; p < size && p < MOST_PERSONS; p++) {
                set |= sex[p] == which ? 1 << p : 0;
            }
            return set;
        }

        int deadCount() {
            int all = 0;
            for (int p = 0; p < size && p < MOST_PERSONS; p++) {
                all += died[p] == NONE ? 0 : 1;
            }
            return all;
        }

        /** All of a set died on a day (NONE: live again). */
        void setDied(int set, int day) {
            for (int p = 0; p < size && p < MOST_PERSONS; p++) {
                if (holds(set, p)) {
                    died[p] = day;
                }
            }
        }
    }

    /** Debts, or legacies: who owes or leaves how much to whom, in the order told. */
    private static final class Claims {
        int size;
        final int[] from = new int[MOST_CLAIMS];
        final int[] to = new int[MOST_CLAIMS];
        final long[] amount = new long[MOST_CLAIMS];

        boolean add(int one, int other, long worth) {
            if (size < 0 || size >= MOST_CLAIMS) {
                return false;
            }
            from[size] = one;
            to[size] = other;
            amount[size] = worth;
            size++;
            return true;
        }
    }

    /** Of one day: to whom each step leads from each person, and who its KINS are. */
    private static final class Kinship {
        static final int CHILD = 0;
        static final int MOTHER = 1;
        static final int FATHER = 2;
        static final int MATE = 3;
        static final int FIRST_KIN = 4;
        static final int ROWS = FIRST_KIN + MOST_KINS;

        final Register people;
        final int[][] leads = new int[ROWS][MOST_PERSONS];
        int tableDay = NONE;
        int males;
        int females;

        Kinship(Register people) {
            this.people = people;
        }

        static int rowOfWord(int kind) {
            switch (kind) {
                case Text.CHILD: return CHILD;
                case Text.MOTHER: return MOTHER;
                case Text.FATHER: return FATHER;
                case Text.MATE: return MATE;
                default: return NONE;
            }
        }

        static int rowOfKin(int k) {
            return k < 0 ? NONE : FIRST_KIN + k;
        }

        /** The law, a person or mates are new: the table holds no more. */
        void forget() {
            tableDay = NONE;
        }

        void refresh(Law law, int day) {
            if (tableDay == day) {
                return;
            }
            tableDay = day;
            males = people.ofSex(MALE);
            females = people.ofSex(FEMALE);
            int born = people.bornBy(day);
            setParents(born);
            setMates(born, day - 1);
            for (int k = 0; k < law.kinCount && k < MOST_KINS; k++) {
                for (int d = 0; d < people.size && d < MOST_PERSONS; d++) {
                    leads[FIRST_KIN + k][d] = follow(law, k, d);
                }
            }
        }

        int kinOf(int k, int d) {
            return reach(rowOfKin(k), d);
        }

        int childrenOf(int d) {
            return reach(CHILD, d);
        }

        private int reach(int row, int d) {
            return row >= 0 && row < ROWS && people.has(d) ? leads[row][d] : 0;
        }

        private void setParents(int born) {
            Arrays.fill(leads[CHILD], 0);
            for (int p = 0; p < people.size && p < MOST_PERSONS; p++) {
                int itsMother = people.mother[p];
                int itsFather = people.father[p];
                int itself = 1 << p & born;
                leads[MOTHER][p] = people.has(itsMother) ? 1 << itsMother & born : 0;
                leads[FATHER][p] = people.has(itsFather) ? 1 << itsFather & born : 0;
                if (people.has(itsMother)) {
                    leads[CHILD][itsMother] |= itself;
                }
                if (people.has(itsFather)) {
                    leads[CHILD][itsFather] |= itself;
                }
            }
        }

        private void setMates(int born, int day) {
            Arrays.fill(leads[MATE], 0);
            for (int pair = 0; pair < people.mateCount && pair < MOST_MATES; pair++) {
                int one = people.mateOne[pair];
                int other = people.mateOther[pair];
                if (people.areMates(pair, day) && people.has(one) && people.has(other)) {
                    leads[MATE][one] |= 1 << other & born;
                    leads[MATE][other] |= 1 << one & born;
                }
            }
        }

        /** All to whom the paths of KIN k lead from d. Only KINS told ahead stand in them. */
        private int follow(Law law, int k, int d) {
            int all = 0;
            int here = 0;
            for (int s = law.startOf(k); s < law.startOf(k + 1) && s < MOST_TOKENS; s++) {
                if (law.stepOpensPath[s]) {
                    all |= here;
                    here = 1 << d;
                }
                int sex = law.stepSex[s];
                here = stepFrom(law.stepRow[s], here) & (sex == MALE ? males : sex == FEMALE ? females : ~0);
            }
            return (all | here) & ~(1 << d);
        }

        private int stepFrom(int row, int set) {
            if (row < 0 || row >= ROWS) {
                return 0;
            }
            int[] leadsTo = leads[row];
            int to = 0;
            for (int x = 0; x < MOST_PERSONS && set >> x != 0; x++) {
                to |= (set >> x & 1) != 0 ? leadsTo[x] : 0;
            }
            return to;
        }
    }

    /** III: what part of 1 goes to whom. */
    private static final class Parting {
        static final int NOTHING = 0;
        static final int IS_BARRED = 1;
        static final int BY_FIXED = 2;
        static final int BY_REST = 3;
        static final int NO_PART = 4;
        static final int BY_LINE = 5;
        static final int IS_DEAD_ONE = 6;

        final Kinship kinship;
        final int[] heads = new int[MOST_KINS];
        final int[] barRule = new int[MOST_PERSONS];
        final int[] fixedRule = new int[MOST_PERSONS];
        final int[] weight = new int[MOST_PERSONS];
        final int[] heirs = new int[MOST_PERSONS];
        final long[] part = new long[MOST_PERSONS];
        final long[] share = new long[MOST_PERSONS];
        int living;
        int lined;
        int allHeads;
        int barred;
        int given;
        int rested;
        long sum;
        long rest;
        long crown;
        int restRule;

        Parting(Kinship kinship) {
            this.kinship = kinship;
        }

        /** False: SPENT. The kinship is that of the day. */
        boolean work(Law law, int dead, int nowLiving) {
            living = nowLiving;
            Arrays.fill(part, Ratio.ZERO);
            Arrays.fill(share, Ratio.ZERO);
            given = 0;
            rested = 0;
            sum = Ratio.ZERO;
            crown = Ratio.ZERO;
            restRule = NONE;
            findLines();
            findHeads(law, dead);
            findBarred(law, dead);
            return giveFixed(law) && lessen() && giveRest(law) && passAll();
        }

        void report(Estate estate) {
            estate.fixedSum = sum;
            estate.crown = crown;
            estate.restRule = restRule;
            for (int x = 0; x < MOST_PERSONS; x++) {
                int reason = reasonOf(x, estate.owner);
                estate.share[x] = share[x];
                estate.reason[x] = reason;
                estate.reasonRule[x] = reason == IS_BARRED ? barRule[x]
                    : reason == BY_FIXED ? fixedRule[x] : reason == BY_REST ? restRule : NONE;
            }
        }

        private int reasonOf(int x, int dead) {
            if (x == dead) {
                return IS_DEAD_ONE;
            }
            if (!holds(allHeads, x)) {
                return x >= 0 && x < MOST_PERSONS && Ratio.isPositive(share[x]) ? BY_LINE : NOTHING;
            }
            if (holds(barred, x)) {
                return IS_BARRED;
            }
            if (holds(given, x)) {
                return BY_FIXED;
            }
            return holds(rested, x) ? BY_REST : NO_PART;
        }

        // Children have higher numbers than their parents: from above, theirs are known ahead.
        private void findLines() {
            lined = 0;
            for (int x = MOST_PERSONS - 1; x >= 0; x--) {
                heirs[x] = kinship.childrenOf(x) & (living | lined);
                if (!holds(living, x) && heirs[x] != 0) {
                    lined |= 1 << x;
                }
            }
        }

        private void findHeads(Law law, int dead) {
            allHeads = 0;
            for (int k = 0; k < MOST_KINS; k++) {
                boolean bySteps = (law.bySteps >> k & 1) != 0;
                int able = bySteps ? living | lined : living;
                heads[k] = k < law.kinCount ? kinship.kinOf(k, dead) & able : 0;
                allHeads |= heads[k];
            }
        }

        private int headsOf(int k) {
            return k >= 0 && k < MOST_KINS ? heads[k] : 0;
        }

        private void findBarred(Law law, int dead) {
            barred = 0;
            for (int r = 0; r < law.ruleCount; r++) {
                if (law.isKind(r, Text.BARS)) {
                    barBy(r, headsOf(law.kinIn(r, 0)), kinship.kinOf(law.kinIn(r, 1), dead));
                }
            }
        }

        private void barBy(int r, int barring, int second) {
            for (int x = 0; x < MOST_PERSONS; x++) {
                boolean byAnother = (barring & ~(1 << x)) != 0;
                if (byAnother && holds(second, x) && !holds(barred, x)) {
                    barred |= 1 << x;
                    barRule[x] = r;
                }
            }
        }

        private boolean giveFixed(Law law) {
            for (int r = 0; r < law.ruleCount && r < MOST_RULES; r++) {
                int takers = headsOf(law.kinIn(r, 0)) & ~barred & ~given;
                if (law.isKind(r, Text.FIXED) && applies(law, r) && takers != 0) {
                    if (!give(r, takers, law.rulePart[r], law.ruleEach[r])) {
                        return false;
                    }
                }
            }
            return true;
        }

        private boolean applies(Law law, int r) {
            if (r < 0 || r >= MOST_RULES) {
                return false;
            }
            int ifKin = law.ruleIf[r];
            int notKin = law.ruleNot[r];
            return (ifKin == NONE || headsOf(ifKin) != 0) && (notKin == NONE || headsOf(notKin) == 0);
        }

        private boolean give(int r, int takers, long whole, boolean each) {
            long number = Ratio.of(Integer.bitCount(takers), 1);
            long own = each ? whole : Ratio.over(whole, number);
            sum = Ratio.plus(sum, each ? Ratio.times(whole, number) : whole);
            for (int x = 0; x < MOST_PERSONS; x++) {
                if (holds(takers, x)) {
                    part[x] = own;
                    fixedRule[x] = r;
                }
            }
            given |= takers;
            return !Ratio.isSpent(own) && !Ratio.isSpent(sum);
        }

        private boolean lessen() {
            if (!Ratio.isAbove(sum, Ratio.ONE)) {
                rest = Ratio.minus(Ratio.ONE, sum);
                return !Ratio.isSpent(rest);
            }
            rest = Ratio.ZERO;
            for (int x = 0; x < MOST_PERSONS; x++) {
                if (holds(given, x)) {
                    part[x] = Ratio.over(part[x], sum);
                    if (Ratio.isSpent(part[x])) {
                        return false;
                    }
                }
            }
            return true;
        }

        private boolean giveRest(Law law) {
            if (!Ratio.isPositive(rest)) {
                return true;
            }
            for (int r = 0; r < law.ruleCount; r++) {
                if (law.isKind(r, Text.REST) && (headsNamedIn(law, r) & ~barred) != 0) {
                    return shareByWeights(law, r);
                }
            }
            for (int r = 0; r < law.ruleCount; r++) {
                if (law.isKind(r, Text.BACK) && hasPart(headsNamedIn(law, r))) {
                    return giveBack(r, headsNamedIn(law, r));
                }
            }
            crown = rest;
            return true;
        }

        private int headsNamedIn(Law law, int r) {
            int set = 0;
            for (int i = 0; i < law.sizeOf(r); i++) {
                set |= headsOf(law.kinIn(r, i));
            }
            return set;
        }

        private boolean hasPart(int set) {
            for (int x = 0; x < MOST_PERSONS; x++) {
                if (holds(set, x) && Ratio.isPositive(part[x])) {
                    return true;
                }
            }
            return false;
        }

        private boolean shareByWeights(Law law, int r) {
            restRule = r;
            int counted = 0;
            long allWeights = 0;
            for (int i = 0; i < law.sizeOf(r); i++) {
                int fresh = headsOf(law.kinIn(r, i)) & ~barred & ~counted;
                for (int x = 0; x < MOST_PERSONS; x++) {
                    if (holds(fresh, x)) {
                        weight[x] = law.weightIn(r, i);
                        allWeights += weight[x];
                    }
                }
                counted |= fresh;
            }
            rested = counted & ~given;
            for (int x = 0; x < MOST_PERSONS; x++) {
                if (holds(counted, x)) {
                    long more = Ratio.times(rest, Ratio.of(weight[x], allWeights));
                    part[x] = Ratio.plus(part[x], more);
                    if (Ratio.isSpent(part[x])) {
                        return false;
                    }
                }
            }
            return true;
        }

        private boolean giveBack(int r, int takers) {
            restRule = r;
            long all = Ratio.ZERO;
            for (int x = 0; x < MOST_PERSONS; x++) {
                all = holds(takers, x) ? Ratio.plus(all, part[x]) : all;
            }
            for (int x = 0; x < MOST_PERSONS; x++) {
                if (holds(takers, x)) {
                    part[x] = Ratio.plus(part[x], Ratio.times(rest, Ratio.over(part[x], all)));
                    if (Ratio.isSpent(part[x])) {
                        return false;
                    }
                }
            }
            return true;
        }

        private boolean passAll() {
            for (int x = 0; x < MOST_PERSONS; x++) {
                // A part of 0 changes nothing, and its ways down the lines might be very many.
                if (Ratio.isPositive(part[x]) && !passDown(this, x, part[x], 0)) {
                    return false;
                }
            }
            return true;
        }

        /** A line is at most as deep as there are persons. False: SPENT. */
        private static boolean passDown(Parting parting, int x, long part, int depth) {
            if (depth > MOST_PERSONS || x < 0 || x >= MOST_PERSONS) {
                return false;
            }
            if (holds(parting.living, x)) {
                parting.share[x] = Ratio.plus(parting.share[x], part);
                return !Ratio.isSpent(parting.share[x]);
            }
            int heirs = parting.heirs[x];
            long each = Ratio.over(part, Ratio.of(Integer.bitCount(heirs), 1));
            if (Ratio.isSpent(each)) {
                return false;
            }
            for (int child = x + 1; child < MOST_PERSONS; child++) {
                if (holds(heirs, child) && !passDown(parting, child, each, depth + 1)) {
                    return false;
                }
            }
            return true;
        }
    }

    /** IV: works estates out on rows of its own, which count only when they are carried out. */
    private static final class Settlement {
        final Register people;
        final Claims debts;
        final Claims legacies;
        final Parting parting;
        final long[] purse = new long[MOST_PERSONS];
        long strangers;
        long crown;

        Settlement(Register people, Claims debts, Claims legacies, Parting parting) {
            this.people = people;
            this.debts = debts;
            this.legacies = legacies;
            this.parting = parting;
        }

        void begin(History history) {
            System.arraycopy(people.worth, 0, purse, 0, MOST_PERSONS);
            strangers = history.strangers;
            crown = history.crown;
        }

        void carryOut(History history) {
            System.arraycopy(purse, 0, people.worth, 0, MOST_PERSONS);
            history.strangers = strangers;
            history.crown = crown;
        }

        /** False: SPENT. The kinship is that of the day, the dead one does not live on it. */
        boolean workOut(Law law, int dead, int day, int living, Estate estate) {
            if (!people.has(dead)) {
                return false;
            }
            estate.begin(dead, day, people.size);
            if (!payDebts(dead, living, estate) || !payLegacies(law.bound, dead, living, estate)) {
                return false;
            }
            purse[dead] = Ratio.ZERO;
            if (!parting.work(law, dead, living)) {
                return false;
            }
            parting.report(estate);
            return payParts(estate);
        }

        private boolean addTo(int q, long amount) {
            if (q < 0 || q >= MOST_PERSONS) {
                return false;
            }
            purse[q] = Ratio.plus(purse[q], amount);
            return !Ratio.isSpent(purse[q]);
        }

        private boolean payDebts(int dead, int living, Estate estate) {
            for (int i = 0; i < debts.size && i < MOST_CLAIMS; i++) {
                int to = debts.to[i];
                if (debts.from[i] == dead && (to == NONE || holds(living, to))) {
                    long paid = Ratio.lesser(debts.amount[i], purse[dead]);
                    purse[dead] = Ratio.minus(purse[dead], paid);
                    estate.debtsPaid = Ratio.plus(estate.debtsPaid, paid);
                    if (Ratio.isSpent(purse[dead]) || Ratio.isSpent(estate.debtsPaid) || !payDebt(to, paid, estate)) {
                        return false;
                    }
                }
            }
            return true;
        }

        private boolean payDebt(int to, long paid, Estate estate) {
            if (to < 0 || to >= MOST_PERSONS) {
                strangers = Ratio.plus(strangers, paid);
                return !Ratio.isSpent(strangers);
            }
            estate.debt[to] = Ratio.plus(estate.debt[to], paid);
            return !Ratio.isSpent(estate.debt[to]) && addTo(to, paid);
        }

        private boolean isLeft(int i, int dead, int living) {
            return i >= 0 && i < legacies.size && i < MOST_CLAIMS && legacies.from[i] == dead && holds(living, legacies.to[i]);
        }

        private boolean payLegacies(long bound, int dead, int living, Estate estate) {
            long all = Ratio.ZERO;
            for (int i = 0; i < legacies.size && i < MOST_CLAIMS; i++) {
                all = isLeft(i, dead, living) ? Ratio.plus(all, legacies.amount[i]) : all;
            }
            if (Ratio.isSpent(all)) {
                return false;
            }
            long mass = purse[dead];
            boolean tooMuch = Ratio.isAbove(all, bound);
            for (int i = 0; i < legacies.size && i < MOST_CLAIMS; i++) {
                if (isLeft(i, dead, living)) {
                    long own = legacies.amount[i];
                    long lessened = tooMuch ? Ratio.times(Ratio.over(own, all), bound) : own;
                    if (!payLegacy(legacies.to[i], Ratio.times(mass, lessened), estate)) {
                        return false;
                    }
                }
            }
            estate.legaciesPaid = Ratio.times(mass, tooMuch ? bound : all);
            estate.parted = Ratio.minus(mass, estate.legaciesPaid);
            return !Ratio.isSpent(estate.parted);
        }

        private boolean payLegacy(int to, long amount, Estate estate) {
            if (to < 0 || to >= MOST_PERSONS) {
                return false;
            }
            estate.legacy[to] = Ratio.plus(estate.legacy[to], amount);
            return !Ratio.isSpent(estate.legacy[to]) && addTo(to, amount);
        }

        private boolean payParts(Estate estate) {
            for (int x = 0; x < MOST_PERSONS; x++) {
                boolean has = Ratio.isPositive(estate.share[x]);
                if (has && !addTo(x, Ratio.times(estate.parted, estate.share[x]))) {
                    return false;
                }
            }
            crown = Ratio.plus(crown, Ratio.times(estate.parted, estate.crown));
            return !Ratio.isSpent(crown);
        }
    }

    /** What an ESTATE was, with the persons of then; without an owner it is none. */
    private static final class Estate {
        int owner = NONE;
        int day;
        int persons;
        int restRule;
        long debtsPaid;
        long legaciesPaid;
        long parted;
        long fixedSum;
        long crown;
        final long[] share = new long[MOST_PERSONS];
        final long[] legacy = new long[MOST_PERSONS];
        final long[] debt = new long[MOST_PERSONS];
        final int[] reason = new int[MOST_PERSONS];
        final int[] reasonRule = new int[MOST_PERSONS];

        void begin(int dead, int onDay, int personsNow) {
            owner = dead;
            day = onDay;
            persons = personsNow;
            debtsPaid = Ratio.ZERO;
            Arrays.fill(legacy, Ratio.ZERO);
            Arrays.fill(debt, Ratio.ZERO);
        }

        void copy(Estate other) {
            owner = other.owner;
            day = other.day;
            persons = other.persons;
            restRule = other.restRule;
            debtsPaid = other.debtsPaid;
            legaciesPaid = other.legaciesPaid;
            parted = other.parted;
            fixedSum = other.fixedSum;
            crown = other.crown;
            System.arraycopy(other.share, 0, share, 0, MOST_PERSONS);
            System.arraycopy(other.legacy, 0, legacy, 0, MOST_PERSONS);
            System.arraycopy(other.debt, 0, debt, 0, MOST_PERSONS);
            System.arraycopy(other.reason, 0, reason, 0, MOST_PERSONS);
            System.arraycopy(other.reasonRule, 0, reasonRule, 0, MOST_PERSONS);
        }

        boolean has(int q) {
            return owner != NONE && q >= 0 && q < persons && q < MOST_PERSONS;
        }

        long figure(int what) {
            if (owner == NONE) {
                return NONE;
            }
            switch (what) {
                case 0: return Ratio.upper(debtsPaid);
                case 1: return Ratio.lower(debtsPaid);
                case 2: return Ratio.upper(legaciesPaid);
                case 3: return Ratio.lower(legaciesPaid);
                case 4: return Ratio.upper(parted);
                case 5: return Ratio.lower(parted);
                case 6: return Ratio.upper(fixedSum);
                case 7: return Ratio.lower(fixedSum);
                case 8: return Ratio.upper(crown);
                case 9: return Ratio.lower(crown);
                case 10: return owner;
                case 11: return day;
                case 12: return restRule;
                default: return NONE;
            }
        }

        long figureOf(int q, int what) {
            if (!has(q)) {
                return NONE;
            }
            switch (what) {
                case 0: return Ratio.upper(share[q]);
                case 1: return Ratio.lower(share[q]);
                case 2: return Ratio.upper(legacy[q]);
                case 3: return Ratio.lower(legacy[q]);
                case 4: return Ratio.upper(debt[q]);
                case 5: return Ratio.lower(debt[q]);
                default: return NONE;
            }
        }
    }

    /** The deaths so far, each with what was ahead of it, and what went outside. */
    private static final class History {
        int deaths;
        int lastDay;
        long strangers = Ratio.ZERO;
        long crown = Ratio.ZERO;
        final int[] dead = new int[MOST_PERSONS];
        final int[] personsThen = new int[MOST_PERSONS];
        final int[] dayAhead = new int[MOST_PERSONS];
        final long[] strangersAhead = new long[MOST_PERSONS];
        final long[] crownAhead = new long[MOST_PERSONS];
        final long[][] worthAhead = new long[MOST_PERSONS][MOST_PERSONS];

        boolean allows(int day) {
            return day >= lastDay && day <= LAST_OF_DAYS;
        }

        /** A death of these; each death has one that did not die yet, so the rows suffice. */
        void enter(Register people, int dying, int day) {
            if (deaths < 0 || deaths >= MOST_PERSONS) {
                return;
            }
            dead[deaths] = dying;
            personsThen[deaths] = people.size;
            dayAhead[deaths] = lastDay;
            strangersAhead[deaths] = strangers;
            crownAhead[deaths] = crown;
            System.arraycopy(people.worth, 0, worthAhead[deaths], 0, MOST_PERSONS);
            deaths++;
            lastDay = day;
            people.setDied(dying, day);
            people.listed = 0;
        }

        boolean takeBack(Register people) {
            int latest = deaths - 1;
            if (latest < 0 || latest >= MOST_PERSONS) {
                return false;
            }
            deaths = latest;
            lastDay = dayAhead[latest];
            strangers = strangersAhead[latest];
            crown = crownAhead[latest];
            int then = Math.max(0, Math.min(personsThen[latest], MOST_PERSONS));
            System.arraycopy(worthAhead[latest], 0, people.worth, 0, then);
            people.setDied(dead[latest], NONE);
            people.listed = dead[latest];
            return true;
        }
    }
}
