import java.util.Arrays;

/**
 * A bench on which contracts are compared by what they say. The words in capitals are those of the
 * document.
 *
 * <p>A COND is never kept as a tree: there are at most 256 CASES, so it is worked out for all of them
 * at once, as it is read, and what is kept of it is the set of CASES in which it is so.
 */
public final class ClauseBench {
    /** None. */
    public static final int NONE = -1;

    private static final int REFUSED = -2;

    private static final int LONGEST_TEXT = 900;
    private static final int LONGEST_WORD = 12;
    private static final int MOST_DIGITS = 3;
    private static final int LAST_NUMBER = 365;
    private static final int MOST_FACTS = 8;
    private static final int MOST_PARTIES = 6;
    private static final int MOST_ACTS = 12;
    private static final int MOST_CLAUSES = 24;
    private static final int MOST_CHANGES = 12;
    private static final int MOST_OPERANDS = 60;
    private static final int DEEPEST = 10;
    private static final int VERSIONS = 4;
    private static final int LAST_DAY = 9999;
    private static final int FED = 20;

    // Each RIDER takes two calls at least (bytes for the TAPE, and its own), so 512 calls can't have more.
    private static final int MOST_RIDERS = 256;

    // Between two tokens at most one blank is added to what was read.
    private static final int LONGEST_WRITTEN = 2 * LONGEST_TEXT;

    private static final int MISPLACED = 0;
    private static final int TOO_LONG = 1;
    private static final int TAKEN = 2;
    private static final int UNKNOWN = 3;
    private static final int CLAUSE_TOO_MANY = 4;
    private static final int WORD_TOO_MANY = 5;
    private static final int COND_TOO_BIG = 6;

    private static final int KIND_DEFINE = 0;
    private static final int KIND_DUTY = 1;
    private static final int KIND_RIGHT = 2;
    private static final int KIND_BAN = 3;

    // A token is one long: a WORD has its letters, five bits each, and is above 0; all else is below.
    private static final long END = 0;
    private static final long COLON = -1 - ':';
    private static final long SEMICOLON = -1 - ';';
    private static final long OPEN = -1 - '(';
    private static final long CLOSE = -1 - ')';
    private static final long FIRST_NUMBER = -1000;
    private static final long OVERLONG = -2000;
    private static final long FIRST_OURS = -3000;

    private static final String OURS =
            "define as duty right ban to by days workdays if unless over and or not strike replace add";
    private static final int OURS_COUNT = 18;
    private static final long DEFINE = FIRST_OURS;
    private static final long AS = FIRST_OURS - 1;
    private static final long DUTY = FIRST_OURS - 2;
    private static final long RIGHT = FIRST_OURS - 3;
    private static final long BAN = FIRST_OURS - 4;
    private static final long TO = FIRST_OURS - 5;
    private static final long BY = FIRST_OURS - 6;
    private static final long DAYS = FIRST_OURS - 7;
    private static final long WORKDAYS = FIRST_OURS - 8;
    private static final long IF = FIRST_OURS - 9;
    private static final long UNLESS = FIRST_OURS - 10;
    private static final long OVER = FIRST_OURS - 11;
    private static final long AND = FIRST_OURS - 12;
    private static final long OR = FIRST_OURS - 13;
    private static final long NOT = FIRST_OURS - 14;
    private static final long STRIKE = FIRST_OURS - 15;
    private static final long REPLACE = FIRST_OURS - 16;
    private static final long ADD = FIRST_OURS - 17;

    // How the CLAUSES of a text are read: as a VERSION's, or by themselves within a RIDER.
    private static final int WHOLE = 0;
    private static final int ADDING = 1;
    private static final int REPLACING = 2;

    private final Sheet tape;
    private final Sheet out;
    private final Sheet merged;
    private final Words facts;
    private final Words parties;
    private final Words acts;
    private final Text text;
    private final Reader reader;
    private final Version[] versions;
    private final Rider[] riders;
    private final Cases world;
    private final Calendar calendar;
    private final int[] keys;
    private int made;
    private int ridersOn;
    private int quarrelingDuty;
    private int quarrelingBan;

    /** No FACTS, no VERSIONS. */
    public ClauseBench() {
        Words language = new Words(OURS_COUNT);
        language.addEach(OURS);
        tape = new Sheet(LONGEST_TEXT, language);
        out = new Sheet(LONGEST_WRITTEN, language);
        merged = new Sheet(LONGEST_TEXT, language);
        facts = new Words(MOST_FACTS);
        parties = new Words(MOST_PARTIES);
        acts = new Words(MOST_ACTS);
        text = new Text(language);
        reader = new Reader(text, facts, parties, acts);
        versions = new Version[VERSIONS];
        riders = new Rider[MOST_RIDERS];
        world = new Cases();
        calendar = new Calendar();
        keys = new int[MOST_CLAUSES];
        quarrelingDuty = NONE;
        quarrelingBan = NONE;
    }

    /** Twenty bytes come behind the TAPE: how many it has; NONE: they would be too many. */
    public int feed(int a, int b, int c, int d, int e) {
        if (tape.size + FED > LONGEST_TEXT) {
            return NONE;
        }
        tape.addFour(a);
        tape.addFour(b);
        tape.addFour(c);
        tape.addFour(d);
        tape.addFour(e);
        return tape.size;
    }

    /** The TAPE has its first n bytes alone: n; NONE: it has not so many. */
    public int end(int n) {
        if (n < 0 || n > tape.size) {
            return NONE;
        }
        tape.size = n;
        return n;
    }

    /** The TAPE tells the FACTS: how many; -2 - its FAULT; NONE: they are told already. */
    public int facts() {
        useTape();
        if (facts.size > 0) {
            return NONE;
        }
        if (!reader.readFacts()) {
            return REFUSED - text.fault;
        }
        world.setFirst(caseCount());
        return facts.size;
    }

    /** The TAPE becomes VERSION v: how many CLAUSES; -2 - its FAULT; NONE. */
    public int version(int v) {
        useTape();
        if (facts.size == 0 || v < 0 || v >= VERSIONS) {
            return NONE;
        }
        Version told = reader.readVersion(made);
        if (told == null) {
            return REFUSED - text.fault;
        }
        made++;
        versions[v] = told;
        return told.size;
    }

    /** The TAPE is a RIDER put on VERSION v, VERSION w comes of it: how many CLAUSES; a refusal; NONE. */
    public int rider(int v, int w) {
        useTape();
        Version base = versionAt(v);
        if (base == null || w < 0 || w >= VERSIONS || ridersOn >= MOST_RIDERS) {
            return NONE;
        }
        Version list = new Version(MOST_CLAUSES + MOST_CHANGES, NONE);
        list.addAll(base);
        if (!reader.readRider(list)) {
            return REFUSED - text.fault;
        }
        merged.clear();
        list.putOn(merged);
        if (merged.size > LONGEST_TEXT) {
            return REFUSED;
        }
        text.scan(merged);
        Version after = reader.readVersion(made);
        if (after == null) {
            return REFUSED;
        }
        made++;
        riders[ridersOn] = new Rider(w, versions[w], after.serial);
        ridersOn++;
        versions[w] = after;
        return after.size;
    }

    /** The latest RIDER is taken off: true; false: there is none, or its VERSION is another by now. */
    public boolean takeOff() {
        if (ridersOn <= 0) {
            return false;
        }
        ridersOn--;
        Rider latest = riders[ridersOn];
        riders[ridersOn] = null;
        if (latest == null) {
            return false;
        }
        Version now = versionAt(latest.place);
        if (now == null || now.serial != latest.serial) {
            return false;
        }
        versions[latest.place] = latest.before;
        return true;
    }

    /** The TAPE is the WORLD: how many CASES it has; -2 - its FAULT; NONE without FACTS. */
    public int world() {
        useTape();
        if (facts.size == 0) {
            return NONE;
        }
        Cases told = reader.readWorld();
        if (told == null) {
            return REFUSED - text.fault;
        }
        world.setFirst(caseCount());
        world.and(told);
        return world.total();
    }

    /** VERSION v is WRITTEN to OUT: how many bytes; NONE without it. */
    public int write(int v) {
        Version version = versionAt(v);
        if (version == null) {
            return NONE;
        }
        out.clear();
        version.putOn(out);
        return out.size;
    }

    /** Byte i of OUT; NONE. */
    public int octet(int i) {
        return out.byteAt(i);
    }

    /** OUT's bytes come behind the TAPE: how many that has; NONE: they would be too many. */
    public int back() {
        if (tape.size + out.size > LONGEST_TEXT) {
            return NONE;
        }
        for (int i = 0; i < out.size; i++) {
            tape.addByte(out.byteAt(i));
        }
        out.clear();
        return tape.size;
    }

    /** What CLAUSE k of a VERSION is; NONE. */
    public int clause(int v, int k, int what) {
        Clause clause = clauseAt(v, k);
        if (clause == null) {
            return NONE;
        }
        switch (what) {
            case 0:
                return clause.kind;
            case 1:
                return clause.party;
            case 2:
                return clause.act;
            case 3:
                return clause.number;
            case 4:
                return clause.workdays;
            case 5:
                return Integer.bitCount(clause.over);
            case 6:
                return Words.letterCount(clause.name);
            default:
                return NONE;
        }
    }

    /** Letter i of the LABEL or NAME of CLAUSE k; NONE. */
    public int letter(int v, int k, int i) {
        Clause clause = clauseAt(v, k);
        return clause == null ? NONE : Words.letterAt(clause.name, i);
    }

    /** Whether CLAUSE k of a VERSION HOLDS in a CASE: 1, 0; NONE. */
    public int holds(int v, int k, int which) {
        Clause clause = clauseAt(v, k);
        if (clause == null || !isCase(which)) {
            return NONE;
        }
        return clause.cases.has(which) ? 1 : 0;
    }

    /** How many OUTCOMES a CASE has; NONE. */
    public int outcomes(int v, int which) {
        Version version = versionAt(v);
        if (version == null || !isCase(which)) {
            return NONE;
        }
        return version.gatherKeys(which, keys);
    }

    /** What OUTCOME i of a CASE is; NONE. */
    public int outcome(int v, int which, int i, int what) {
        int key = keyAt(v, which, i);
        if (key == NONE) {
            return NONE;
        }
        boolean duty = Clause.keyKind(key) == KIND_DUTY;
        switch (what) {
            case 0:
                return Clause.keyKind(key);
            case 1:
                return Clause.keyParty(key);
            case 2:
                return Clause.keyAct(key);
            case 3:
                return duty ? Clause.keyNumber(key) : NONE;
            case 4:
                return duty ? Clause.keyWorkdays(key) : NONE;
            default:
                return NONE;
        }
    }

    /** The least CASE of the WORLD in which two VERSIONS have unlike OUTCOMES; -1; -2. */
    public int differs(int v, int w) {
        Version one = versionAt(v);
        Version other = versionAt(w);
        if (one == null || other == null) {
            return REFUSED;
        }
        Cases unlike = new Cases();
        one.addUnlike(other, unlike);
        other.addUnlike(one, unlike);
        unlike.and(world);
        return unlike.least();
    }

    /** The k-th CLAUSE of VERSION v that HOLDS just in one of two VERSIONS: its number, its least CASE; NONE. */
    public int changed(int v, int w, int k, int what) {
        Version one = versionAt(v);
        Version other = versionAt(w);
        if (one == null || other == null || k < 0 || what < 0 || what > 1) {
            return NONE;
        }
        Cases unlike = new Cases();
        int ahead = 0;
        for (int number = 0; number < one.size; number++) {
            one.compareClause(number, other, unlike);
            unlike.and(world);
            int least = unlike.least();
            if (least == NONE) {
                continue;
            }
            if (ahead == k) {
                return what == 0 ? number : least;
            }
            ahead++;
        }
        return NONE;
    }

    /** The least CASE of the WORLD with a QUARREL; -1: none; -2 without such a VERSION. */
    public int quarrel(int v) {
        Version version = versionAt(v);
        if (version == null) {
            return REFUSED;
        }
        Cases both = new Cases();
        int least = NONE;
        for (int duty = 0; duty < version.size; duty++) {
            for (int ban = 0; ban < version.size; ban++) {
                version.clash(duty, ban, both);
                both.and(world);
                int found = both.least();
                // An equal CASE of a later pair must not win: the least duty and ban are asked.
                if (found != NONE && (least == NONE || found < least)) {
                    least = found;
                    quarrelingDuty = duty;
                    quarrelingBan = ban;
                }
            }
        }
        return least;
    }

    /** Whose the latest QUARREL told was: 0 the duty, 1 the ban; NONE. */
    public int quarreling(int what) {
        switch (what) {
            case 0:
                return quarrelingDuty;
            case 1:
                return quarrelingBan;
            default:
                return NONE;
        }
    }

    /** The least CASE of the WORLD with a GAP for an ACT; -1: none; -2 without such. */
    public int gap(int v, int act) {
        Version version = versionAt(v);
        if (version == null || act < 0 || act >= acts.size) {
            return REFUSED;
        }
        Cases open = new Cases();
        version.addOwing(act, open);
        open.flip();
        open.and(world);
        return open.least();
    }

    /** A DAY is FREE, or no more: whether that changed anything. */
    public boolean free(int day, boolean is) {
        return calendar.mark(day, is);
    }

    /** The DAY by which a duty of a CASE, told from a DAY on, is to be done; NONE. */
    public int due(int v, int which, int i, int day) {
        int key = keyAt(v, which, i);
        if (key == NONE || Clause.keyKind(key) != KIND_DUTY || !Calendar.isDay(day)) {
            return NONE;
        }
        int number = Clause.keyNumber(key);
        return Clause.keyWorkdays(key) == 1 ? calendar.workdaysOn(day, number) : Calendar.daysOn(day, number);
    }

    /** How many there are of what; NONE for others. */
    public int count(int what) {
        switch (what) {
            case 0:
                return facts.size;
            case 1:
                return parties.size;
            case 2:
                return acts.size;
            case 3:
                return world.total();
            case 4:
                return ridersOn;
            case 5:
                return tape.size;
            case 6:
                return out.size;
            case 7:
                return calendar.freeDays;
            default:
                return clauseCount(what);
        }
    }

    private int clauseCount(int what) {
        if (what < 10) {
            return NONE;
        }
        Version version = versionAt(what - 10);
        return version == null ? NONE : version.size;
    }

    private void useTape() {
        text.scan(tape);
        tape.clear();
    }

    private int caseCount() {
        return 1 << facts.size;
    }

    private boolean isCase(int which) {
        return facts.size > 0 && which >= 0 && which < caseCount();
    }

    private Version versionAt(int v) {
        return v < 0 || v >= VERSIONS ? null : versions[v];
    }

    private Clause clauseAt(int v, int k) {
        Version version = versionAt(v);
        return version == null ? null : version.at(k);
    }

    private int keyAt(int v, int which, int i) {
        int found = outcomes(v, which);
        return i < 0 || i >= found || i >= keys.length ? NONE : keys[i];
    }

    private static boolean isNumber(long token) {
        return token <= FIRST_NUMBER && token > OVERLONG;
    }

    private static boolean isOurs(long token) {
        return token <= FIRST_OURS;
    }

    private static boolean isFreeWord(long token) {
        return token > 0;
    }

    /** WORDS by their numbers, as they come. */
    private static final class Words {
        private static final int BITS = 5;
        private static final int MASK = 31;

        private final long[] codes;
        int size;

        Words(int most) {
            codes = new long[Math.max(most, 0)];
        }

        int find(long code) {
            for (int i = 0; i < size; i++) {
                if (codes[i] == code) {
                    return i;
                }
            }
            return NONE;
        }

        /** The number that the WORD has then; NONE: there are as many as may be. */
        int add(long code) {
            if (size >= codes.length) {
                return NONE;
            }
            codes[size] = code;
            size++;
            return size - 1;
        }

        void addEach(String list) {
            long code = 0;
            for (int i = 0; i < list.length(); i++) {
                if (list.charAt(i) == ' ') {
                    add(code);
                    code = 0;
                } else {
                    code = grown(code, list.charAt(i));
                }
            }
            add(code);
        }

        long at(int number) {
            return number < 0 || number >= size ? END : codes[number];
        }

        void cut(int most) {
            size = Math.min(size, Math.max(most, 0));
        }

        static long grown(long code, int letter) {
            return (code << BITS) + (letter - 'a' + 1);
        }

        static int letterCount(long code) {
            int letters = 0;
            for (int i = 0; i < LONGEST_WORD; i++) {
                if (code >> (i * BITS) != 0) {
                    letters++;
                }
            }
            return letters;
        }

        static int letterAt(long code, int i) {
            int letters = letterCount(code);
            if (i < 0 || i >= letters) {
                return NONE;
            }
            return 'a' - 1 + (int) ((code >> ((letters - 1 - i) * BITS)) & MASK);
        }
    }

    /** Bytes in a row: the TAPE, OUT, and the text that comes of a RIDER. */
    private static final class Sheet {
        private final byte[] bytes;
        private final Words language;
        // Counts on when the room is full: a text that is too long is seen by that.
        int size;
        private long last;

        Sheet(int room, Words language) {
            bytes = new byte[Math.max(room, 0)];
            this.language = language;
        }

        void clear() {
            size = 0;
        }

        int byteAt(int i) {
            return i < 0 || i >= size || i >= bytes.length ? NONE : bytes[i] & 255;
        }

        void addByte(int b) {
            if (size < bytes.length) {
                bytes[size] = (byte) b;
            }
            size++;
        }

        void addFour(int number) {
            addByte(number >>> 24);
            addByte(number >>> 16);
            addByte(number >>> 8);
            addByte(number);
        }

        void put(long token) {
            boolean tight = size == 0 || last == OPEN || token == CLOSE || token == COLON || token == SEMICOLON;
            if (!tight) {
                addByte(' ');
            }
            last = token;
            if (isFreeWord(token)) {
                putWord(token);
            } else if (isOurs(token)) {
                putWord(language.at((int) (FIRST_OURS - token)));
            } else if (isNumber(token)) {
                putNumber((int) (FIRST_NUMBER - token));
            } else {
                addByte((int) (-1 - token));
            }
        }

        private void putWord(long code) {
            int letters = Words.letterCount(code);
            for (int i = 0; i < letters; i++) {
                addByte(Words.letterAt(code, i));
            }
        }

        private void putNumber(int number) {
            if (number >= 100) {
                addByte('0' + number / 100);
            }
            if (number >= 10) {
                addByte('0' + number / 10 % 10);
            }
            addByte('0' + number % 10);
        }
    }

    /** A text as tokens, how far it is read, and its first FAULT. */
    private static final class Text {
        private final Words language;
        private final long[] tokens;
        private final int[] places;
        private int size;
        /** How many tokens are read: never above size. */
        int at;
        int fault;

        Text(Words language) {
            this.language = language;
            tokens = new long[LONGEST_TEXT];
            places = new int[LONGEST_TEXT + 1];
        }

        void scan(Sheet sheet) {
            size = 0;
            at = 0;
            fault = 0;
            int length = Math.min(sheet.size, LONGEST_TEXT);
            int behind = 0;
            for (int i = 0; i < length; i++) {
                if (i >= behind && !isBlank(sheet.byteAt(i))) {
                    behind = runEnd(sheet, i, length);
                    add(tokenOf(sheet, i, behind), i);
                }
            }
            places[size] = length;
        }

        private void add(long token, int place) {
            if (size < tokens.length) {
                tokens[size] = token;
                places[size] = place;
                size++;
            }
        }

        private static int runEnd(Sheet sheet, int from, int length) {
            int b = sheet.byteAt(from);
            boolean letters = isLetter(b);
            if (!letters && !isDigit(b)) {
                return from + 1;
            }
            for (int i = from + 1; i < length; i++) {
                int next = sheet.byteAt(i);
                if (letters ? !isLetter(next) : !isDigit(next)) {
                    return i;
                }
            }
            return length;
        }

        private long tokenOf(Sheet sheet, int from, int behind) {
            int b = sheet.byteAt(from);
            if (isLetter(b)) {
                return behind - from > LONGEST_WORD ? OVERLONG : wordOf(sheet, from, behind);
            }
            if (isDigit(b)) {
                return behind - from > MOST_DIGITS ? OVERLONG : numberOf(sheet, from, behind);
            }
            return -1 - b;
        }

        private long wordOf(Sheet sheet, int from, int behind) {
            long code = 0;
            for (int i = from; i < behind; i++) {
                code = Words.grown(code, sheet.byteAt(i));
            }
            int ours = language.find(code);
            return ours == NONE ? code : FIRST_OURS - ours;
        }

        private static long numberOf(Sheet sheet, int from, int behind) {
            int number = 0;
            for (int i = from; i < behind; i++) {
                number = number * 10 + sheet.byteAt(i) - '0';
            }
            return FIRST_NUMBER - number;
        }

        private static boolean isBlank(int b) {
            return b == ' ' || b == '\n';
        }

        private static boolean isLetter(int b) {
            return b >= 'a' && b <= 'z';
        }

        private static boolean isDigit(int b) {
            return b >= '0' && b <= '9';
        }

        /** The token that is to be read next; END behind the last. */
        long token() {
            return at < size ? tokens[at] : END;
        }

        void step() {
            if (at < size) {
                at++;
            }
        }

        boolean take(long wanted) {
            if (token() != wanted) {
                return fail(MISPLACED);
            }
            step();
            return true;
        }

        /** Notes the FAULT of the next token, if it is the first: false, for those who answer with it. */
        boolean fail(int kind) {
            if (fault == 0) {
                boolean overlong = at < size && tokens[at] == OVERLONG;
                fault = 1 + places[at] * 8 + (overlong ? TOO_LONG : kind);
            }
            return false;
        }

        long[] readSince(int from) {
            return Arrays.copyOfRange(tokens, Math.min(from, at), at);
        }
    }

    /** A set of CASES. */
    private static final class Cases {
        private static final int WORDS = 4;
        private static final int WIDTH = 64;
        private static final int FACTS_IN_WORD = 6;
        private static final long[] FACT_BITS = {
            0xAAAAAAAAAAAAAAAAL, 0xCCCCCCCCCCCCCCCCL, 0xF0F0F0F0F0F0F0F0L,
            0xFF00FF00FF00FF00L, 0xFFFF0000FFFF0000L, 0xFFFFFFFF00000000L
        };

        private final long[] bits;

        Cases() {
            bits = new long[WORDS];
        }

        void clear() {
            for (int i = 0; i < WORDS; i++) {
                bits[i] = 0L;
            }
        }

        void fill() {
            for (int i = 0; i < WORDS; i++) {
                bits[i] = -1L;
            }
        }

        /** The CASES below a number. */
        void setFirst(int cases) {
            for (int i = 0; i < WORDS; i++) {
                int here = cases - i * WIDTH;
                if (here <= 0) {
                    bits[i] = 0L;
                } else {
                    bits[i] = here >= WIDTH ? -1L : (1L << here) - 1;
                }
            }
        }

        /** The CASES in which a FACT is so. */
        void setFact(int fact) {
            for (int i = 0; i < WORDS; i++) {
                if (fact >= 0 && fact < FACTS_IN_WORD) {
                    bits[i] = FACT_BITS[fact];
                } else {
                    bits[i] = (i >> (fact - FACTS_IN_WORD) & 1) == 1 ? -1L : 0L;
                }
            }
        }

        void copy(Cases other) {
            for (int i = 0; i < WORDS; i++) {
                bits[i] = other.bits[i];
            }
        }

        void and(Cases other) {
            for (int i = 0; i < WORDS; i++) {
                bits[i] &= other.bits[i];
            }
        }

        void andNot(Cases other) {
            for (int i = 0; i < WORDS; i++) {
                bits[i] &= ~other.bits[i];
            }
        }

        void or(Cases other) {
            for (int i = 0; i < WORDS; i++) {
                bits[i] |= other.bits[i];
            }
        }

        void xor(Cases other) {
            for (int i = 0; i < WORDS; i++) {
                bits[i] ^= other.bits[i];
            }
        }

        void flip() {
            for (int i = 0; i < WORDS; i++) {
                bits[i] = ~bits[i];
            }
        }

        boolean has(int which) {
            int i = which >> FACTS_IN_WORD;
            return i >= 0 && i < WORDS && (bits[i] >> (which & (WIDTH - 1)) & 1) == 1;
        }

        /** The least CASE; NONE: there is none. */
        int least() {
            for (int i = 0; i < WORDS; i++) {
                if (bits[i] != 0) {
                    return i * WIDTH + Long.numberOfTrailingZeros(bits[i]);
                }
            }
            return NONE;
        }

        int total() {
            int cases = 0;
            for (int i = 0; i < WORDS; i++) {
                cases += Long.bitCount(bits[i]);
            }
            return cases;
        }
    }

    /**
     * Reads CONDS. Each ( and not that is open is a level of its own: what is read within it so far is
     * kept as the ALLS that are done and the one that goes on.
     */
    private static final class Cond {
        private final Text text;
        private final Words facts;
        private final Cases[] done;
        private final Cases[] going;
        private final boolean[] negates;
        private int depth;
        private int operands;
        /** What was read last. */
        final Cases value;

        Cond(Text text, Words facts) {
            this.text = text;
            this.facts = facts;
            done = new Cases[DEEPEST + 1];
            going = new Cases[DEEPEST + 1];
            for (int i = 0; i <= DEEPEST; i++) {
                done[i] = new Cases();
                going[i] = new Cases();
            }
            negates = new boolean[DEEPEST + 1];
            value = new Cases();
        }

        /** Reads a COND, whose value it is then. No names: of FACTS alone; alone: meanings aren't asked. */
        boolean read(Version names, boolean alone) {
            depth = 0;
            operands = 0;
            done[0].clear();
            going[0].fill();
            for (int i = 0; i <= LONGEST_TEXT; i++) {
                if (!readOpenings() || !readOperand(names, alone)) {
                    return false;
                }
                closeLevels();
                long token = text.token();
                if (token != AND && token != OR) {
                    return finish();
                }
                if (token == OR) {
                    done[depth].or(going[depth]);
                    going[depth].fill();
                }
                text.step();
            }
            return text.fail(MISPLACED);
        }

        private boolean readOpenings() {
            for (int i = 0; i <= DEEPEST; i++) {
                long token = text.token();
                if (token != NOT && token != OPEN) {
                    return true;
                }
                if (depth >= DEEPEST) {
                    return text.fail(COND_TOO_BIG);
                }
                depth++;
                negates[depth] = token == NOT;
                done[depth].clear();
                going[depth].fill();
                text.step();
            }
            return text.fail(COND_TOO_BIG);
        }

        private boolean readOperand(Version names, boolean alone) {
            long token = text.token();
            if (!isFreeWord(token)) {
                return text.fail(MISPLACED);
            }
            int fact = facts.find(token);
            Clause define = names == null ? null : names.at(names.find(token, true));
            if (fact == NONE && define == null && !alone) {
                return text.fail(UNKNOWN);
            }
            if (operands >= MOST_OPERANDS) {
                return text.fail(COND_TOO_BIG);
            }
            operands++;
            if (fact != NONE) {
                value.setFact(fact);
            } else if (define != null) {
                value.copy(define.cases);
            }
            text.step();
            return true;
        }

        /** A ONE has been read: the nots ahead of it end with it, and so may ( that it was the last of. */
        private void closeLevels() {
            for (int i = 0; i <= DEEPEST; i++) {
                if (negates[depth]) {
                    value.flip();
                    depth--;
                    continue;
                }
                going[depth].and(value);
                if (depth == 0 || text.token() != CLOSE) {
                    return;
                }
                done[depth].or(going[depth]);
                value.copy(done[depth]);
                depth--;
                text.step();
            }
        }

        private boolean finish() {
            if (depth > 0) {
                return text.fail(MISPLACED);
            }
            done[0].or(going[0]);
            value.copy(done[0]);
            return true;
        }
    }

    /** A CLAUSE, with the tokens that it was read of. */
    private static final class Clause {
        int kind;
        long name;
        int party;
        int act;
        int number;
        int workdays;
        /** Bit k: it stands over CLAUSE k. */
        int over;
        long[] tokens;
        /** Where it HOLDS (of a define: where its COND is so). */
        final Cases cases;

        Clause() {
            kind = KIND_DEFINE;
            party = NONE;
            act = NONE;
            number = NONE;
            workdays = NONE;
            cases = new Cases();
        }

        boolean isDefine() {
            return kind == KIND_DEFINE;
        }

        /** Its OUTCOME as a number: by these OUTCOMES are in order, and alike if they are equal. */
        int key() {
            int ends = kind == KIND_DUTY ? number << 1 | workdays : 0;
            return kind << 17 | party << 14 | act << 10 | ends;
        }

        static int keyKind(int key) {
            return key >> 17;
        }

        static int keyParty(int key) {
            return key >> 14 & 7;
        }

        static int keyAct(int key) {
            return key >> 10 & 15;
        }

        static int keyNumber(int key) {
            return key >> 1 & 511;
        }

        static int keyWorkdays(int key) {
            return key & 1;
        }
    }

    /** CLAUSES in order: a VERSION, or what CHANGES are done on. */
    private static final class Version {
        private final Clause[] clauses;
        /** Which of all VERSIONS that came it is. */
        final int serial;
        int size;

        Version(int most, int serial) {
            clauses = new Clause[Math.max(most, 0)];
            this.serial = serial;
        }

        Clause at(int k) {
            return k < 0 || k >= size ? null : clauses[k];
        }

        void add(Clause clause) {
            if (clause != null && size < clauses.length) {
                clauses[size] = clause;
                size++;
            }
        }

        void addAll(Version other) {
            for (int k = 0; k < other.size; k++) {
                add(other.clauses[k]);
            }
        }

        void replace(int k, Clause clause) {
            if (k >= 0 && k < size && clause != null) {
                clauses[k] = clause;
            }
        }

        void remove(int k) {
            if (k < 0 || k >= size) {
                return;
            }
            for (int i = k + 1; i < size; i++) {
                clauses[i - 1] = clauses[i];
            }
            size--;
            clauses[size] = null;
        }

        /** The first CLAUSE with a LABEL (or the first define of a NAME); NONE. */
        int find(long name, boolean define) {
            for (int k = 0; k < size; k++) {
                if (clauses[k].name == name && (clauses[k].kind == KIND_DEFINE) == define) {
                    return k;
                }
            }
            return NONE;
        }

        /** From where each CLAUSE is MET to where it HOLDS: from the last on, as those over it come behind it. */
        void settle() {
            for (int k = size - 1; k >= 0; k--) {
                for (int under = 0; under < k; under++) {
                    if ((clauses[k].over >> under & 1) == 1) {
                        clauses[under].cases.andNot(clauses[k].cases);
                    }
                }
            }
        }

        void putOn(Sheet sheet) {
            for (int k = 0; k < size; k++) {
                if (k > 0) {
                    sheet.put(SEMICOLON);
                }
                long[] tokens = clauses[k].tokens;
                for (int i = 0; tokens != null && i < tokens.length; i++) {
                    sheet.put(tokens[i]);
                }
            }
        }

        /** The OUTCOMES of a CASE as their numbers, in order, each once: how many. */
        int gatherKeys(int which, int[] keys) {
            int found = 0;
            for (int k = 0; k < size; k++) {
                Clause clause = clauses[k];
                if (!clause.isDefine() && clause.cases.has(which) && found < keys.length) {
                    found = insert(keys, found, clause.key());
                }
            }
            return found;
        }

        private static int insert(int[] keys, int found, int key) {
            int place = 0;
            while (place < found && keys[place] < key) {
                place++;
            }
            if (place < found && keys[place] == key) {
                return found;
            }
            for (int i = found; i > place; i--) {
                keys[i] = keys[i - 1];
            }
            keys[place] = key;
            return found + 1;
        }

        /** Adds the CASES in which an OUTCOME of this VERSION is in just one of the two. */
        void addUnlike(Version other, Cases unlike) {
            Cases here = new Cases();
            Cases there = new Cases();
            for (int k = 0; k < size; k++) {
                if (!clauses[k].isDefine()) {
                    setOutcome(clauses[k].key(), here);
                    other.setOutcome(clauses[k].key(), there);
                    here.xor(there);
                    unlike.or(here);
                }
            }
        }

        private void setOutcome(int key, Cases cases) {
            cases.clear();
            for (int k = 0; k < size; k++) {
                if (!clauses[k].isDefine() && clauses[k].key() == key) {
                    cases.or(clauses[k].cases);
                }
            }
        }

        /** Where CLAUSE k HOLDS just here or just in the other VERSION; of a define: nowhere. */
        void compareClause(int k, Version other, Cases unlike) {
            unlike.clear();
            Clause here = at(k);
            if (here == null || here.isDefine()) {
                return;
            }
            unlike.copy(here.cases);
            Clause there = other.at(other.find(here.name, false));
            if (there != null) {
                unlike.xor(there.cases);
            }
        }

        /** Where two CLAUSES are a QUARREL. */
        void clash(int duty, int ban, Cases both) {
            both.clear();
            Clause one = at(duty);
            Clause other = at(ban);
            if (one == null || other == null || one.kind != KIND_DUTY || other.kind != KIND_BAN) {
                return;
            }
            if (one.party == other.party && one.act == other.act) {
                both.copy(one.cases);
                both.and(other.cases);
            }
        }

        void addOwing(int act, Cases owing) {
            for (int k = 0; k < size; k++) {
                if (clauses[k].kind == KIND_DUTY && clauses[k].act == act) {
                    owing.or(clauses[k].cases);
                }
            }
        }
    }

    /** Reads whole texts of a Text: FACTS, VERSIONS, RIDERS, the WORLD. */
    private static final class Reader {
        private final Text text;
        private final Words facts;
        private final Words parties;
        private final Words acts;
        private final Cond cond;
        /** How CLAUSES are read now, and among which others. */
        private int mode;
        private Version list;

        Reader(Text text, Words facts, Words parties, Words acts) {
            this.text = text;
            this.facts = facts;
            this.parties = parties;
            this.acts = acts;
            cond = new Cond(text, facts);
        }

        boolean readFacts() {
            for (int k = 0; k <= MOST_FACTS; k++) {
                if (k > 0 && text.token() == END) {
                    return true;
                }
                if (!readFact()) {
                    break;
                }
            }
            facts.cut(0);
            return false;
        }

        private boolean readFact() {
            long token = text.token();
            if (isOurs(token)) {
                return text.fail(TAKEN);
            }
            if (!isFreeWord(token)) {
                return text.fail(MISPLACED);
            }
            if (facts.find(token) != NONE) {
                return text.fail(TAKEN);
            }
            if (facts.add(token) == NONE) {
                return text.fail(COND_TOO_BIG);
            }
            text.step();
            return true;
        }

        /** The CASES of the COND, or all without one; null: refused. */
        Cases readWorld() {
            if (text.token() == END) {
                cond.value.fill();
                return cond.value;
            }
            return cond.read(null, false) && text.take(END) ? cond.value : null;
        }

        /** The VERSION that the text tells; null: refused, and no PARTY or ACT comes of it. */
        Version readVersion(int serial) {
            int partiesAhead = parties.size;
            int actsAhead = acts.size;
            Version draft = new Version(MOST_CLAUSES, serial);
            boolean more = true;
            for (int k = 0; k <= MOST_CLAUSES && more; k++) {
                draft.add(readClause(draft, WHOLE));
                more = text.fault == 0 && text.token() == SEMICOLON;
                if (more) {
                    text.step();
                }
            }
            if (text.fault == 0 && text.take(END)) {
                draft.settle();
                return draft;
            }
            parties.cut(partiesAhead);
            acts.cut(actsAhead);
            return null;
        }

        /** Reads the CHANGES of a RIDER and does each of them on the CLAUSES as it is read. */
        boolean readRider(Version clauses) {
            boolean more = true;
            for (int k = 0; k <= MOST_CHANGES && more; k++) {
                long change = text.token();
                if (change != STRIKE && change != REPLACE && change != ADD) {
                    return text.fail(MISPLACED);
                }
                if (k == MOST_CHANGES) {
                    return text.fail(CLAUSE_TOO_MANY);
                }
                text.step();
                if (change == STRIKE) {
                    clauses.remove(readLabelIn(clauses));
                } else if (change == ADD) {
                    clauses.add(readClause(clauses, ADDING));
                } else {
                    replaceIn(clauses, readClause(clauses, REPLACING));
                }
                more = text.fault == 0 && text.token() == SEMICOLON;
                if (more) {
                    text.step();
                }
            }
            return text.fault == 0 && text.take(END);
        }

        private static void replaceIn(Version clauses, Clause clause) {
            if (clause != null) {
                clauses.replace(clauses.find(clause.name, clause.isDefine()), clause);
            }
        }

        /** The number of the CLAUSE whose LABEL stands here; NONE: refused. */
        private int readLabelIn(Version clauses) {
            long token = text.token();
            int k = isFreeWord(token) ? clauses.find(token, false) : NONE;
            if (k != NONE) {
                text.step();
            } else if (isFreeWord(token)) {
                text.fail(UNKNOWN);
            } else {
                text.fail(isOurs(token) ? TAKEN : MISPLACED);
            }
            return k;
        }

        /** The CLAUSE that stands here, read among others (itself not yet one of them); null: refused. */
        private Clause readClause(Version among, int how) {
            list = among;
            mode = how;
            int from = text.at;
            Clause clause = new Clause();
            boolean read = text.token() == DEFINE
                    ? readDefine(clause)
                    : readName(clause, false) && readDeed(clause) && readTail(clause);
            if (!read) {
                return null;
            }
            clause.tokens = text.readSince(from);
            return clause;
        }

        private boolean readDefine(Clause clause) {
            if (mode == WHOLE && list.size >= MOST_CLAUSES) {
                return text.fail(CLAUSE_TOO_MANY);
            }
            text.step();
            if (!readName(clause, true) || !text.take(AS) || !cond.read(list, mode != WHOLE)) {
                return false;
            }
            clause.cases.copy(cond.value);
            return true;
        }

        /** The NAME behind define, or the LABEL, which is the first WORD of its CLAUSE. */
        private boolean readName(Clause clause, boolean define) {
            long token = text.token();
            if (isOurs(token)) {
                return text.fail(TAKEN);
            }
            if (!isFreeWord(token)) {
                return text.fail(MISPLACED);
            }
            boolean told = list.find(token, define) != NONE;
            if (mode == WHOLE && (told || define && facts.find(token) != NONE)) {
                return text.fail(TAKEN);
            }
            if (mode == REPLACING && !told) {
                return text.fail(UNKNOWN);
            }
            if (mode == WHOLE && list.size >= MOST_CLAUSES) {
                return text.fail(CLAUSE_TOO_MANY);
            }
            clause.name = token;
            text.step();
            return true;
        }

        /** From the sign behind the LABEL to the TAIL. */
        private boolean readDeed(Clause clause) {
            if (!text.take(COLON)) {
                return false;
            }
            clause.kind = kindOf(text.token());
            if (clause.kind == NONE) {
                return text.fail(MISPLACED);
            }
            text.step();
            clause.party = readNumbered(parties);
            if (text.fault != 0 || !text.take(TO)) {
                return false;
            }
            clause.act = readNumbered(acts);
            return text.fault == 0 && (clause.kind != KIND_DUTY || readTerm(clause));
        }

        private static int kindOf(long token) {
            if (token == DUTY) {
                return KIND_DUTY;
            }
            if (token == RIGHT) {
                return KIND_RIGHT;
            }
            return token == BAN ? KIND_BAN : NONE;
        }

        /** The number of the PARTY or ACT that stands here; NONE: refused, or not asked. */
        private int readNumbered(Words words) {
            long token = text.token();
            if (!isFreeWord(token)) {
                text.fail(isOurs(token) ? TAKEN : MISPLACED);
                return NONE;
            }
            int number = NONE;
            if (mode == WHOLE) {
                number = words.find(token);
                number = number == NONE ? words.add(token) : number;
                if (number == NONE) {
                    text.fail(WORD_TOO_MANY);
                    return NONE;
                }
            }
            text.step();
            return number;
        }

        private boolean readTerm(Clause clause) {
            if (!text.take(BY)) {
                return false;
            }
            long token = text.token();
            if (!isNumber(token)) {
                return text.fail(MISPLACED);
            }
            clause.number = (int) (FIRST_NUMBER - token);
            if (clause.number > LAST_NUMBER) {
                return text.fail(TOO_LONG);
            }
            text.step();
            clause.workdays = text.token() == WORKDAYS ? 1 : 0;
            return text.take(clause.workdays == 1 ? WORKDAYS : DAYS);
        }

        private boolean readTail(Clause clause) {
            boolean alone = mode != WHOLE;
            clause.cases.fill();
            if (text.token() == IF) {
                text.step();
                if (!cond.read(list, alone)) {
                    return false;
                }
                clause.cases.and(cond.value);
            }
            if (text.token() == UNLESS) {
                text.step();
                if (!cond.read(list, alone)) {
                    return false;
                }
                clause.cases.andNot(cond.value);
            }
            return text.token() != OVER || readOver(clause);
        }

        private boolean readOver(Clause clause) {
            for (int i = 0; i < LONGEST_TEXT; i++) {
                text.step();
                long token = text.token();
                if (!isFreeWord(token)) {
                    return text.fail(isOurs(token) ? TAKEN : MISPLACED);
                }
                if (mode == WHOLE) {
                    int under = list.find(token, false);
                    if (under == NONE) {
                        return text.fail(UNKNOWN);
                    }
                    clause.over |= 1 << under;
                }
                text.step();
                if (text.token() != AND) {
                    return true;
                }
            }
            return text.fail(MISPLACED);
        }
    }

    /** A RIDER that is put on: what it made its VERSION of. */
    private static final class Rider {
        final int place;
        /** Null: there was no VERSION. */
        final Version before;
        final int serial;

        Rider(int place, Version before, int serial) {
            this.place = place;
            this.before = before;
            this.serial = serial;
        }
    }

    /** DAYS, and which of them are FREE. */
    private static final class Calendar {
        private static final int WEEK = 7;
        private static final int WORKED = 5;

        private static final int WIDTH = 64;

        /** A bit for each DAY. */
        private final long[] marks;
        int freeDays;

        Calendar() {
            marks = new long[LAST_DAY / WIDTH + 1];
        }

        static boolean isDay(int day) {
            return day >= 0 && day <= LAST_DAY;
        }

        boolean mark(int day, boolean is) {
            if (!isDay(day) || isFree(day) == is) {
                return false;
            }
            marks[day / WIDTH] ^= 1L << (day % WIDTH);
            freeDays += is ? 1 : -1;
            return true;
        }

        private boolean isFree(int day) {
            return isDay(day) && (marks[day / WIDTH] >> (day % WIDTH) & 1) == 1;
        }

        static int daysOn(int day, int number) {
            return isDay(day + number) ? day + number : NONE;
        }

        /** The DAY itself for 0, also where it is no WORKDAY. */
        int workdaysOn(int day, int number) {
            if (number == 0) {
                return day;
            }
            int left = number;
            for (int next = day + 1; next > 0 && next <= LAST_DAY; next++) {
                if (next % WEEK < WORKED && !isFree(next)) {
                    left--;
                }
                if (left == 0) {
                    return next;
                }
            }
            return NONE;
        }
    }
}
