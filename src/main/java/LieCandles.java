/**
 * A street of windows, the people behind them, their lies, and the one candle allowed to each lie.
 * The document says what each call answers; README.md says how to use and test it.
 */
public final class LieCandles {
    public static final int NONE = -1;
    public static final long NOTHING = -1000000000000000L;

    private static final int TAPE_ROOM = 1600;
    private static final int FED = 20;

    private static final int MOST_STATEMENTS = 60;
    private static final int LEAST_WINDOWS = 2;
    private static final int MOST_WINDOWS = 30;
    private static final int MOST_PEOPLE = 6;
    private static final int MOST_TRUST = 9;
    private static final int MOST_LIES = 8;
    private static final int MOST_ROWS = 16;
    private static final int LAST_HOUR = 999;
    private static final int MOST_TALLOW = 999;
    private static final int TALLOW_UNTOLD = 100;
    private static final int MOST_INCHES = 99;
    private static final int MOST_TOLD = 99;
    private static final int MOST_DRAUGHTY = 9;
    private static final int ALL_DRAWS = 100;
    private static final int MOST_KEPT = 40;
    private static final int MOST_UNDONE = 20;
    private static final int MOST_HOURS = 100;
    private static final int AHEAD = 60;
    private static final int SEARCHED = 40;
    private static final int SEEN_AHEAD = 30;
    private static final int MOST_SEEN = 16;
    private static final int SEEN_BYTES = 3;
    private static final int LIMIT = 1000000;

    private static final int NAME_LETTERS = 6;
    private static final int LETTER_BITS = 5;
    private static final int NUMBER_DIGITS = 4;
    private static final int MOST_NUMBER = 9999;
    private static final int MOST_OPEN = 6;

    private static final int NO_SUCH_TEXT = 1;
    private static final int NO_SUCH_NUMBER = 2;
    private static final int NO_SUCH_NAME = 3;
    private static final int TOO_DEEP = 4;
    private static final int TOO_MANY = 5;

    private static final int TAPE_CALLS = 0;
    private static final int TEXT_CALLS = 1;
    private static final int ACT_CALLS = 2;
    private static final int HOUR_CALLS = 3;
    private static final int UNDO_CALLS = 4;
    private static final int SEED_CALLS = 5;
    private static final int KINDS_OF_CALLS = 6;

    private static final int IMAGE_HEAD = 4;
    private static final int IMAGE_ROOM = IMAGE_HEAD + MOST_PEOPLE + 2 * MOST_LIES + 1;
    private static final int IMAGE_SEED = 167;
    private static final int IMAGE_MODULUS = 251;

    // The OWN WORDS, then the words with which a QUESTION begins; a word's number is its place here.
    private static final String WORDS = "street person at trust lie of hangs on light for tallow drafts burns believes gust inches near draft told hour place number lit held wax glow or and not all min max first last often total most least ";
    private static final int UNKNOWN = -1;
    private static final int STREET = 0;
    private static final int PERSON = 1;
    private static final int AT = 2;
    private static final int TRUST = 3;
    private static final int LIE = 4;
    private static final int OF = 5;
    private static final int HANGS = 6;
    private static final int ON = 7;
    private static final int LIGHT = 8;
    private static final int FOR = 9;
    private static final int TALLOW = 10;
    private static final int DRAFTS = 11;
    private static final int BURNS = 12;
    private static final int BELIEVES = 13;
    private static final int GUST = 14;
    private static final int INCHES = 15;
    private static final int NEAR = 16;
    private static final int DRAFT = 17;
    private static final int TOLD = 18;
    private static final int HOUR = 19;
    private static final int PLACE = 20;
    private static final int NUMBER = 21;
    private static final int LIT = 22;
    private static final int HELD = 23;
    private static final int WAX = 24;
    private static final int GLOW = 25;
    private static final int OR = 26;
    private static final int AND = 27;
    private static final int NOT = 28;
    private static final int ALL = 29;
    private static final int MIN = 30;
    private static final int MAX = 31;
    private static final int FIRST = 32;
    private static final int LAST = 33;
    private static final int OFTEN = 34;
    private static final int TOTAL = 35;
    private static final int MOST = 36;

    // Which words may be a PART, a bit for each word's number.
    private static final int DRAFTS_PARTS = 1 << HOUR | 1 << PLACE;
    private static final int BURNS_PARTS = 1 << HOUR | 1 << INCHES | 1 << NEAR | 1 << DRAFT | 1 << TOLD;
    private static final int BELIEVES_PARTS = BURNS_PARTS | 1 << TRUST;
    private static final int QUESTION_PARTS = BELIEVES_PARTS | 1 << PLACE | 1 << NUMBER | 1 << LIT | 1 << HELD | 1 << WAX | 1 << GLOW;

    private static final int DRAFTS_CODE = 0;
    private static final int BURNS_CODE = 1;
    private static final int BELIEVES_CODE = 2;
    private static final int CODES = 3;
    private static final int QUESTION_CODE = 0;
    // Each byte of a text makes one cell at most; the rest is for what an untold sum or test is.
    private static final int CODE_ROOM = TAPE_ROOM + 8;
    private static final int STACK_ROOM = 128;

    private final Tape tape = new Tape();
    private final Code question = new Code();
    private Street here = new Street();
    private Street spare = new Street();
    private final Reader reader = new Reader(tape, question);
    private final StreetReader streetReader = new StreetReader(reader, spare);
    private final State now = new State();
    private final Log log = new Log();
    private final Past past = new Past();
    private final Reckoner reckoner = new Reckoner(here);
    private final Foresight foresight = new Foresight(reckoner, now);
    private final Sight sight = new Sight(foresight);
    private final int[] picture = new int[IMAGE_ROOM];
    private int pictureSize = 0;
    private final int[] refused = new int[KINDS_OF_CALLS];
    private int latestFault = 0;
    private int latestPlace = NONE;
    private int drawn = 1;

    public LieCandles() {
    }

    // ---- the tape

    public int feed(int a, int b, int c, int d, int e) {
        if (tape.length + FED > TAPE_ROOM) {
            return refuse(TAPE_CALLS);
        }
        tape.append(a);
        tape.append(b);
        tape.append(c);
        tape.append(d);
        tape.append(e);
        return tape.length;
    }

    public boolean end(int n) {
        if (n < 0 || n > tape.length) {
            return deny(TAPE_CALLS);
        }
        tape.length = n;
        return true;
    }

    // ---- the street

    public int street() {
        streetReader.readAll(spare);
        takeFault();
        if (latestFault != 0) {
            return refuse(TEXT_CALLS);
        }
        Street old = here;
        here = spare;
        spare = old;
        reckoner.street = here;
        now.beginAt(here);
        forgetActs();
        sight.rows = 0;
        return here.statements;
    }

    public int fault(int what) {
        switch (what) {
            case 0: return latestFault;
            case 1: return latestPlace;
            default: return NONE;
        }
    }

    public int has(int what) {
        switch (what) {
            case 0: return here.windows;
            case 1: return here.people;
            case 2: return here.lies;
            case 3: return here.rows;
            case 4: return now.hour;
            case 5: return now.tallow;
            case 6: return Integer.bitCount(reckoner.litLies(now));
            case 7: return Integer.bitCount(reckoner.believed(now));
            case 8: return log.count;
            case 9: return sight.rows;
            case 10: return past.count;
            default: return NONE;
        }
    }

    public int letter(int kind, int which, int k) {
        if (k < 0 || k >= NAME_LETTERS) {
            return NONE;
        }
        if (kind == 0 && isPerson(which)) {
            return letterOf(here.personNames[which], k);
        }
        if (kind == 1 && isLie(which)) {
            return letterOf(here.lieNames[which], k);
        }
        return NONE;
    }

    public int person(int person, int what) {
        if (!isPerson(person)) {
            return NONE;
        }
        switch (what) {
            case 0: return now.homes[person];
            case 1: return here.trusts[person];
            case 2: return reckoner.litOf(now, person);
            default: return NONE;
        }
    }

    public int lie(int lie, int what) {
        if (!isLie(lie)) {
            return NONE;
        }
        switch (what) {
            case 0: return here.owners[lie];
            case 1: return now.candles[lie];
            case 2: return now.toldHours[lie];
            case 3: return reckoner.believed(now) >> lie & 1;
            case 4: return here.bases[lie];
            case 5: return here.hanging(lie);
            case 6: return reckoner.nearTo(now, lie);
            default: return NONE;
        }
    }

    public int draft(int window, int n) {
        if (!isWindow(window) || !foresight.comes(n, 0, AHEAD)) {
            return NONE;
        }
        return reckoner.draughty(now, window, now.hour + n);
    }

    public int plan(int k, int what) {
        if (k < 0 || k >= here.rows) {
            return NONE;
        }
        switch (what) {
            case 0: return here.rowLies[k];
            case 1: return here.rowHours[k];
            case 2: return here.rowInches[k];
            default: return NONE;
        }
    }

    public int kept(int k, int what) {
        if (k < 0 || k >= log.count) {
            return NONE;
        }
        switch (what) {
            case 0: return log.hourOf(k);
            case 1: return log.lieOf(k);
            default: return NONE;
        }
    }

    // ---- ahead

    public int later(int lie, int n) {
        if (!isLie(lie) || !foresight.comes(n, 0, AHEAD)) {
            return NONE;
        }
        State then = foresight.restart();
        for (int k = 0; k < n; k++) {
            reckoner.pass(then);
        }
        return then.candles[lie];
    }

    public int held(int lie, int n) {
        if (!isLie(lie) || !foresight.comes(n, 0, AHEAD)) {
            return NONE;
        }
        foresight.restart();
        return foresight.believedBehind(n) >> lie & 1;
    }

    public int out(int lie) {
        return isLit(lie) ? foresight.firstUnlit(lie) : NONE;
    }

    public int trusted(int lie, int what) {
        if (!isLie(lie) || what < 0 || what > 1) {
            return NONE;
        }
        return foresight.firstTrust(lie, what == 1);
    }

    // ---- short candles, keystones, changes

    public int shorts(int lie, int n) {
        if (!isLie(lie) || isLit(lie) || !foresight.comes(n, 1, SEARCHED)) {
            return NONE;
        }
        return foresight.shortCandle(1 << lie, n);
    }

    public int together(int set, int n) {
        if (set <= 0 || set >> here.lies != 0 || !foresight.comes(n, 1, SEARCHED)) {
            return NONE;
        }
        return foresight.shortCandle(set, n);
    }

    public int keystone(int n, int what) {
        if (what < 0 || what > 1 || reckoner.litLies(now) == 0 || !foresight.comes(n, 1, SEARCHED)) {
            return NONE;
        }
        foresight.searchKeystone(n);
        return what == 0 ? foresight.keystoneLie : foresight.keystoneCount;
    }

    public int change(int n, int what) {
        if (what < 0 || what > 2 || !hasStreet() || !foresight.comes(n, 1, SEARCHED)) {
            return NONE;
        }
        foresight.searchChange(n);
        switch (what) {
            case 0: return foresight.changeLess;
            case 1: return foresight.changeOther;
            default: return foresight.changeCount;
        }
    }

    public int odds(int lie) {
        if (!hasStreet() || now.hour >= LAST_HOUR) {
            return NONE;
        }
        if (lie == NONE) {
            return ALL_DRAWS * here.windows;
        }
        return isLie(lie) ? foresight.oddsOf(lie) : NONE;
    }

    // ---- how long it was

    public int see() {
        boolean taken = sight.take(tape, here.windows);
        tape.length = 0;
        return taken ? sight.rows : refuse(TEXT_CALLS);
    }

    public int inches(int lie, int k) {
        if (!isLit(lie)) {
            return NONE;
        }
        sight.gather(lie);
        if (k == NONE) {
            return sight.count;
        }
        return k >= 0 && k < sight.count ? sight.lengths[k] : NONE;
    }

    public int tells(int lie, int what) {
        if (what < 0 || what > 2 || !isLit(lie) || now.hour >= LAST_HOUR) {
            return NONE;
        }
        sight.gather(lie);
        if (sight.count == 0) {
            return NONE;
        }
        sight.searchTelling(lie);
        switch (what) {
            case 0: return sight.tellingHours;
            case 1: return sight.tellingWindow;
            default: return sight.tellingLeft;
        }
    }

    // ---- acts

    public boolean light(int lie, int n) {
        if (!isLie(lie) || isLit(lie) || n < 1 || n > MOST_INCHES || n > now.tallow) {
            return deny(ACT_CALLS);
        }
        past.remember(now, log);
        now.kindle(lie, n);
        return true;
    }

    public int snuff(int lie) {
        if (!isLit(lie)) {
            return refuse(ACT_CALLS);
        }
        past.remember(now, log);
        return now.quench(lie);
    }

    public boolean move(int person, int window) {
        if (!isPerson(person) || !isWindow(window) || now.homes[person] == window) {
            return deny(ACT_CALLS);
        }
        past.remember(now, log);
        now.homes[person] = window;
        return true;
    }

    public int buy(int n) {
        if (!hasStreet() || n < 1 || n > MOST_TALLOW || now.tallow >= MOST_TALLOW) {
            return refuse(ACT_CALLS);
        }
        past.remember(now, log);
        now.addTallow(n);
        return now.tallow;
    }

    public int hours(int n) {
        if (!hasStreet() || !foresight.comes(n, 1, MOST_HOURS)) {
            return refuse(HOUR_CALLS);
        }
        past.remember(now, log);
        int gone = 0;
        for (int k = 0; k < n; k++) {
            gone += passNow();
        }
        return gone;
    }

    public int chance(int n) {
        if (!hasStreet() || !foresight.comes(n, 1, MOST_HOURS)) {
            return refuse(HOUR_CALLS);
        }
        past.remember(now, log);
        int gusts = 0;
        for (int k = 0; k < n; k++) {
            if (draw(ALL_DRAWS) < here.gust) {
                gusts++;
                log.addAll(now.hour, reckoner.blow(now, draw(here.windows)));
            }
            passNow();
        }
        return gusts;
    }

    public boolean undo() {
        return past.recall(now, log) || deny(UNDO_CALLS);
    }

    public boolean seed(int seed) {
        if (seed < 0) {
            return deny(SEED_CALLS);
        }
        drawn = seed;
        return true;
    }

    // ---- questions

    public long ask() {
        if (!hasStreet()) {
            tape.length = 0;
            return NOTHING;
        }
        int kind = reader.readQuestion(question);
        takeFault();
        return latestFault != 0 ? NOTHING : reckoner.answer(now, question, kind);
    }

    // ---- images, refusals

    public int image() {
        putPair(0, now.hour);
        putPair(2, now.tallow);
        int size = IMAGE_HEAD;
        for (int p = 0; p < here.people; p++) {
            picture[size++] = now.homes[p];
        }
        for (int l = 0; l < here.lies; l++) {
            picture[size++] = now.candles[l];
            picture[size++] = now.toldHours[l];
        }
        int check = IMAGE_SEED;
        for (int k = 0; k < size; k++) {
            check = (3 * check + picture[k]) % IMAGE_MODULUS;
        }
        picture[size++] = check;
        pictureSize = size;
        return size;
    }

    public int octet(int k) {
        return k >= 0 && k < pictureSize ? picture[k] : NONE;
    }

    public boolean on() {
        boolean fits = hasStreet() && isPicture();
        if (fits) {
            now.readPicture(tape, here);
            forgetActs();
        }
        tape.length = 0;
        return fits || deny(SEED_CALLS);
    }

    public int status(int what) {
        return what >= 0 && what < KINDS_OF_CALLS ? refused[what] : NONE;
    }

    // ---- what the calls share

    private int refuse(int calls) {
        refused[calls]++;
        return NONE;
    }

    private boolean deny(int calls) {
        refused[calls]++;
        return false;
    }

    private boolean hasStreet() {
        return here.windows > 0;
    }

    private boolean isWindow(int window) {
        return window >= 0 && window < here.windows;
    }

    private boolean isPerson(int person) {
        return person >= 0 && person < here.people;
    }

    private boolean isLie(int lie) {
        return lie >= 0 && lie < here.lies;
    }

    private boolean isLit(int lie) {
        return isLie(lie) && now.candles[lie] > 0;
    }

    private static int letterOf(int name, int k) {
        return name >> LETTER_BITS * (NAME_LETTERS - 1 - k) & (1 << LETTER_BITS) - 1;
    }

    private void takeFault() {
        latestFault = reader.fault;
        latestPlace = reader.place;
        tape.length = 0;
    }

    private void forgetActs() {
        log.count = 0;
        past.count = 0;
    }

    private int passNow() {
        int hour = now.hour;
        int gone = reckoner.pass(now);
        log.addAll(hour, gone);
        return Integer.bitCount(gone);
    }

    private int draw(int many) {
        drawn = (int) ((1103515245L * drawn + 12345L) & 0x7fffffffL);
        return many > 0 ? drawn / 64 % many : 0;
    }

    private void putPair(int k, int number) {
        picture[k] = number >> 8;
        picture[k + 1] = number & 255;
    }

    /** Whether the tape is an IMAGE of the street that is here. */
    private boolean isPicture() {
        int last = IMAGE_HEAD + here.people + 2 * here.lies;
        if (tape.length != last + 1 || tape.pairAt(0) > LAST_HOUR || tape.pairAt(2) > MOST_TALLOW) {
            return false;
        }
        int check = IMAGE_SEED;
        for (int k = 0; k < last; k++) {
            check = (3 * check + tape.byteAt(k)) % IMAGE_MODULUS;
        }
        for (int p = 0; p < here.people; p++) {
            if (tape.byteAt(IMAGE_HEAD + p) >= here.windows) {
                return false;
            }
        }
        for (int k = IMAGE_HEAD + here.people; k < last; k += 2) {
            int candle = tape.byteAt(k);
            int told = tape.byteAt(k + 1);
            if (candle > MOST_INCHES || told > MOST_TOLD || candle == 0 && told > 0) {
                return false;
            }
        }
        return tape.byteAt(last) == check;
    }

    /** The bytes that have been fed and that no call has taken yet. */
    private static final class Tape {
        private final int[] bytes = new int[TAPE_ROOM];
        private int length = 0;

        void append(int number) {
            for (int shift = 24; shift >= 0 && length < TAPE_ROOM; shift -= 8) {
                bytes[length++] = number >>> shift & 255;
            }
        }

        int byteAt(int k) {
            return k >= 0 && k < length ? bytes[k] : NONE;
        }

        int pairAt(int k) {
            return byteAt(k) << 8 | byteAt(k + 1);
        }
    }

    /**
     * Sums and tests, operands ahead of what joins them, so that no recursion is needed to reckon them.
     * A cell from 0 on is a number; a cell below is the complement of a word's number or of a sign's byte
     * (all signs are above all words).
     */
    private static final class Code {
        private final int[] cells = new int[CODE_ROOM];
        private final int[] from = new int[CODES];
        private final int[] to = new int[CODES];
        // The words that each one holds, as bits: what none asks for need not be reckoned.
        private final int[] words = new int[CODES];
        private int size = 0;
        private int current = 0;

        void clear() {
            size = 0;
            for (int k = 0; k < CODES; k++) {
                from[k] = 0;
                to[k] = 0;
                words[k] = 0;
            }
        }

        boolean isTold(int which) {
            return to[which] > from[which];
        }

        void start(int which) {
            current = which;
            from[which] = size;
            to[which] = size;
            words[which] = 0;
        }

        void put(int cell) {
            if (size < CODE_ROOM) {
                cells[size++] = cell;
                to[current] = size;
            }
        }

        void putWord(int word) {
            words[current] |= 1 << word;
            put(~word);
        }

        void putUntold() {
            if (!isTold(DRAFTS_CODE)) {
                start(DRAFTS_CODE);
                put(0);
            }
            if (!isTold(BURNS_CODE)) {
                start(BURNS_CODE);
                put(1);
                putWord(NEAR);
                put(~'+');
            }
            if (!isTold(BELIEVES_CODE)) {
                start(BELIEVES_CODE);
                put(1);
            }
        }
    }

    /**
     * Reads words, numbers, names, sums and tests from the tape. The first fault is the one told:
     * it moves the reader to the tape's end, where nothing more can be read, so that no caller need ask for it.
     */
    private static final class Reader {
        private final Tape tape;
        private Code code;
        private int parts = 0;
        private int opened = 0;
        private int at = 0;
        private int wordEnd = 0;
        private int nameAt = 0;
        private int fault = 0;
        private int place = NONE;

        Reader(Tape tape, Code code) {
            this.tape = tape;
            this.code = code;
        }

        void start(Code into) {
            code = into;
            into.clear();
            opened = 0;
            at = 0;
            fault = 0;
            place = NONE;
        }

        void fail(int kind, int where) {
            if (fault == 0) {
                fault = kind;
                place = where;
            }
            at = tape.length;
        }

        /** The byte of the next sign, word or number; NONE at the tape's end. */
        int peek() {
            for (; at < tape.length; at++) {
                int next = tape.bytes[at];
                if (next != ' ' && next != '\n') {
                    return next;
                }
            }
            return NONE;
        }

        /**
         * The number of the word that comes next, which is not taken yet; wordEnd is behind its letters,
         * or at it where no word begins.
         */
        int peekWord() {
            boolean begins = isLetter(peek()) && !isInWord(tape.byteAt(at - 1));
            wordEnd = at;
            while (begins && wordEnd < tape.length && isLetter(tape.bytes[wordEnd])) {
                wordEnd++;
            }
            return begins ? wordNumber() : UNKNOWN;
        }

        boolean takeWord(int word) {
            if (peekWord() != word) {
                return false;
            }
            at = wordEnd;
            return true;
        }

        void expectWord(int word) {
            if (peekWord() == word) {
                at = wordEnd;
            } else {
                fail(NO_SUCH_TEXT, at);
            }
        }

        void expectSign(int sign) {
            if (peek() == sign) {
                at++;
            } else {
                fail(NO_SUCH_TEXT, at);
            }
        }

        int takeNumber(int least, int most) {
            if (!isDigit(peek()) || isInWord(tape.byteAt(at - 1))) {
                fail(NO_SUCH_TEXT, at);
                return least;
            }
            int start = at;
            int number = 0;
            for (int k = 0; k < NUMBER_DIGITS && isDigit(tape.byteAt(at)); k++) {
                number = 10 * number + tape.byteAt(at) - '0';
                at++;
            }
            if (isDigit(tape.byteAt(at))) {
                fail(NO_SUCH_TEXT, at);
                return least;
            }
            if (number < least || number > most) {
                fail(NO_SUCH_NUMBER, start);
                return least;
            }
            return number;
        }

        /** A NAME as a number, LETTER_BITS for each letter, the first one highest. */
        int takeName() {
            int word = peekWord();
            nameAt = at;
            if (wordEnd == at || word >= STREET && word <= MAX) {
                fail(NO_SUCH_TEXT, at);
                return NONE;
            }
            if (wordEnd - at > NAME_LETTERS) {
                fail(NO_SUCH_TEXT, at + NAME_LETTERS);
                return NONE;
            }
            int name = 0;
            for (int k = at; k < at + NAME_LETTERS; k++) {
                name = name << LETTER_BITS | (k < wordEnd ? tape.byteAt(k) - 'a' + 1 : 0);
            }
            at = wordEnd;
            return name;
        }

        void allow(int which, int words) {
            code.start(which);
            parts = words;
        }

        /** The number of the word with which the QUESTION begins. */
        int readQuestion(Code into) {
            start(into);
            int kind = peekWord();
            if (kind < FIRST) {
                fail(NO_SUCH_TEXT, at);
                return kind;
            }
            at = wordEnd;
            allow(QUESTION_CODE, QUESTION_PARTS);
            if (kind <= OFTEN) {
                test();
            } else {
                sum();
            }
            if (peek() != NONE) {
                fail(NO_SUCH_TEXT, at);
            }
            return kind;
        }

        private void test() {
            both();
            for (int k = 0; k < TAPE_ROOM && takeWord(OR); k++) {
                both();
                code.putWord(OR);
            }
        }

        private void both() {
            fact();
            for (int k = 0; k < TAPE_ROOM && takeWord(AND); k++) {
                fact();
                code.putWord(AND);
            }
        }

        private void fact() {
            int word = peekWord();
            if (word == NOT) {
                if (open(wordEnd)) {
                    fact();
                    code.putWord(NOT);
                    opened--;
                }
            } else if (word == ALL) {
                at = wordEnd;
                code.put(1);
            } else if (peek() == '[') {
                if (open(at + 1)) {
                    test();
                    expectSign(']');
                    opened--;
                }
            } else {
                sum();
                int sign = peek();
                if (sign == '<' || sign == '>' || sign == '=') {
                    at++;
                    sum();
                    code.put(~sign);
                } else {
                    fail(NO_SUCH_TEXT, at);
                }
            }
        }

        private void sum() {
            product();
            int sign = peek();
            for (int k = 0; k < TAPE_ROOM && (sign == '+' || sign == '-'); k++) {
                at++;
                product();
                code.put(~sign);
                sign = peek();
            }
        }

        private void product() {
            part();
            int sign = peek();
            for (int k = 0; k < TAPE_ROOM && (sign == '*' || sign == '/'); k++) {
                at++;
                part();
                code.put(~sign);
                sign = peek();
            }
        }

        private void part() {
            int next = peek();
            if (isDigit(next)) {
                code.put(takeNumber(0, MOST_NUMBER));
            } else if (next == '(') {
                if (open(at + 1)) {
                    sum();
                    expectSign(')');
                    opened--;
                }
            } else {
                wordPart(peekWord());
            }
        }

        private void wordPart(int word) {
            if (word == MIN || word == MAX) {
                at = wordEnd;
                pairPart(word);
            } else if (word < STREET || word > MAX || (parts >> word & 1) == 0) {
                fail(NO_SUCH_TEXT, at);
            } else if (word == WAX || word == GLOW) {
                if (open(wordEnd)) {
                    part();
                    code.putWord(word);
                    opened--;
                }
            } else {
                at = wordEnd;
                code.putWord(word);
            }
        }

        private void pairPart(int word) {
            if (peek() != '(') {
                fail(NO_SUCH_TEXT, at);
            } else if (open(at + 1)) {
                sum();
                expectSign(',');
                sum();
                expectSign(')');
                code.putWord(word);
                opened--;
            }
        }

        /** Goes on behind what opens here, unless as many as may be are open. */
        private boolean open(int behind) {
            if (opened >= MOST_OPEN) {
                fail(TOO_DEEP, at);
                return false;
            }
            opened++;
            at = behind;
            return true;
        }

        private int wordNumber() {
            int word = 0;
            int k = at;
            boolean same = true;
            for (int i = 0; i < WORDS.length(); i++) {
                char sign = WORDS.charAt(i);
                if (sign != ' ') {
                    same = same && k < wordEnd && tape.bytes[k] == sign;
                    k++;
                } else if (same && k == wordEnd) {
                    return word;
                } else {
                    word++;
                    k = at;
                    same = true;
                }
            }
            return UNKNOWN;
        }

        private static boolean isLetter(int sign) {
            return sign >= 'a' && sign <= 'z';
        }

        private static boolean isDigit(int sign) {
            return sign >= '0' && sign <= '9';
        }

        /** Words and numbers side by side need a blank: behind such a byte neither begins. */
        private static boolean isInWord(int sign) {
            return sign >= 'a' && sign <= 'z' || sign >= '0' && sign <= '9';
        }
    }

    /** What a text tells of a street; nothing of it changes while the street is used. */
    private static final class Street {
        private int statements = 0;
        private int windows = 0;
        private int people = 0;
        private int lies = 0;
        private int rows = 0;
        private int tallow = 0;
        private int gust = 0;
        private final int[] personNames = new int[MOST_PEOPLE];
        private final int[] homes = new int[MOST_PEOPLE];
        private final int[] trusts = new int[MOST_PEOPLE];
        private final int[] lieNames = new int[MOST_LIES];
        private final int[] owners = new int[MOST_LIES];
        private final int[] bases = new int[MOST_LIES];
        private final int[] rowLies = new int[MOST_ROWS];
        private final int[] rowHours = new int[MOST_ROWS];
        private final int[] rowInches = new int[MOST_ROWS];
        private final Code code = new Code();

        void clear() {
            statements = 0;
            windows = 0;
            people = 0;
            lies = 0;
            rows = 0;
            tallow = TALLOW_UNTOLD;
            gust = 0;
        }

        void addPerson(int name, int window, int trust) {
            if (people < MOST_PEOPLE) {
                personNames[people] = name;
                homes[people] = window;
                trusts[people] = trust;
                people++;
            }
        }

        void addLie(int name, int owner) {
            if (owner >= 0 && lies < MOST_LIES) {
                lieNames[lies] = name;
                owners[lies] = owner;
                bases[lies] = NONE;
                lies++;
            }
        }

        void addRow(int lie, int hour, int inches) {
            if (lie >= 0 && rows < MOST_ROWS) {
                rowLies[rows] = lie;
                rowHours[rows] = hour;
                rowInches[rows] = inches;
                rows++;
            }
        }

        int personNamed(int name) {
            for (int p = 0; p < people; p++) {
                if (personNames[p] == name) {
                    return p;
                }
            }
            return NONE;
        }

        int lieNamed(int name) {
            for (int l = 0; l < lies; l++) {
                if (lieNames[l] == name) {
                    return l;
                }
            }
            return NONE;
        }

        /** All that HANGS on a LIE, as bits: a LIE hangs on one told ahead of it, so one round finds all. */
        int hanging(int lie) {
            int set = 1 << lie;
            for (int l = lie + 1; l < lies; l++) {
                if (bases[l] >= 0 && (set >> bases[l] & 1) == 1) {
                    set |= 1 << l;
                }
            }
            return set ^ 1 << lie;
        }
    }

    /** Reads the STATEMENTS of a street. */
    private static final class StreetReader {
        private final Reader reader;
        private Street street;

        StreetReader(Reader reader, Street street) {
            this.reader = reader;
            this.street = street;
        }

        void readAll(Street into) {
            street = into;
            into.clear();
            reader.start(into.code);
            if (reader.peek() == NONE) {
                reader.fail(NO_SUCH_TEXT, reader.at);
            }
            for (int k = 0; k <= MOST_STATEMENTS && reader.peek() != NONE; k++) {
                int word = reader.peekWord();
                int kind = faultOf(word, k);
                if (kind == 0) {
                    readOne(word);
                    reader.expectSign(';');
                    into.statements++;
                } else {
                    reader.fail(kind, reader.at);
                }
            }
            into.code.putUntold();
        }

        /** The FAULT of a STATEMENT that begins with this word behind so many others; 0 without. */
        private int faultOf(int word, int told) {
            if (told >= MOST_STATEMENTS || isTooMany(word)) {
                return TOO_MANY;
            }
            return (word == STREET) != (told == 0) ? NO_SUCH_TEXT : 0;
        }

        private boolean isTooMany(int word) {
            switch (word) {
                case PERSON: return street.people >= MOST_PEOPLE;
                case LIE: return street.lies >= MOST_LIES;
                case LIGHT: return street.rows >= MOST_ROWS;
                case DRAFTS: return street.code.isTold(DRAFTS_CODE);
                case BURNS: return street.code.isTold(BURNS_CODE);
                case BELIEVES: return street.code.isTold(BELIEVES_CODE);
                default: return false;
            }
        }

        private void readOne(int word) {
            int start = reader.at;
            reader.at = reader.wordEnd;
            switch (word) {
                case STREET: street.windows = reader.takeNumber(LEAST_WINDOWS, MOST_WINDOWS); break;
                case PERSON: readPerson(); break;
                case LIE: readLie(); break;
                case HANGS: readHangs(); break;
                case LIGHT: readLight(); break;
                case TALLOW: street.tallow = reader.takeNumber(0, MOST_TALLOW); break;
                case DRAFTS: reader.allow(DRAFTS_CODE, DRAFTS_PARTS); reader.sum(); break;
                case BURNS: reader.allow(BURNS_CODE, BURNS_PARTS); reader.sum(); break;
                case BELIEVES: reader.allow(BELIEVES_CODE, BELIEVES_PARTS); reader.test(); break;
                case GUST: street.gust = reader.takeNumber(0, ALL_DRAWS); break;
                default: reader.fail(NO_SUCH_TEXT, start); break;
            }
        }

        private void readPerson() {
            int name = reader.takeName();
            refuseKnown(name);
            reader.expectWord(AT);
            int window = reader.takeNumber(0, street.windows - 1);
            reader.expectWord(TRUST);
            int trust = reader.takeNumber(0, MOST_TRUST);
            street.addPerson(name, window, trust);
        }

        private void readLie() {
            int name = reader.takeName();
            refuseKnown(name);
            reader.expectWord(OF);
            int owner = street.personNamed(reader.takeName());
            refuseNone(owner);
            street.addLie(name, owner);
        }

        private void readHangs() {
            int lie = street.lieNamed(reader.takeName());
            refuseNone(lie);
            if (lie >= 0 && street.bases[lie] != NONE) {
                reader.fail(NO_SUCH_NAME, reader.nameAt);
            }
            reader.expectWord(ON);
            int base = street.lieNamed(reader.takeName());
            refuseNone(base);
            if (base >= lie) {
                reader.fail(NO_SUCH_NAME, reader.nameAt);
            } else if (lie >= 0) {
                street.bases[lie] = base;
            }
        }

        private void readLight() {
            int lie = street.lieNamed(reader.takeName());
            refuseNone(lie);
            reader.expectWord(AT);
            int hour = reader.takeNumber(0, LAST_HOUR);
            reader.expectWord(FOR);
            int inches = reader.takeNumber(1, MOST_INCHES);
            street.addRow(lie, hour, inches);
        }

        private void refuseKnown(int name) {
            if (street.personNamed(name) != NONE || street.lieNamed(name) != NONE) {
                reader.fail(NO_SUCH_NAME, reader.nameAt);
            }
        }

        private void refuseNone(int found) {
            if (found == NONE) {
                reader.fail(NO_SUCH_NAME, reader.nameAt);
            }
        }
    }

    /** How things stand at an HOUR. A LIE that is not lit has a candle of 0 inches and 0 HOURS. */
    private static final class State {
        private int hour = 0;
        private int tallow = 0;
        private final int[] homes = new int[MOST_PEOPLE];
        private final int[] candles = new int[MOST_LIES];
        private final int[] toldHours = new int[MOST_LIES];

        void beginAt(Street street) {
            hour = 0;
            tallow = street.tallow;
            System.arraycopy(street.homes, 0, homes, 0, MOST_PEOPLE);
            for (int l = 0; l < MOST_LIES; l++) {
                putOut(l);
            }
        }

        void copyFrom(State other) {
            hour = other.hour;
            tallow = other.tallow;
            System.arraycopy(other.homes, 0, homes, 0, MOST_PEOPLE);
            System.arraycopy(other.candles, 0, candles, 0, MOST_LIES);
            System.arraycopy(other.toldHours, 0, toldHours, 0, MOST_LIES);
        }

        void readPicture(Tape tape, Street street) {
            hour = tape.pairAt(0);
            tallow = tape.pairAt(2);
            int k = IMAGE_HEAD;
            for (int p = 0; p < street.people; p++) {
                homes[p] = tape.byteAt(k++);
            }
            for (int l = 0; l < street.lies; l++) {
                candles[l] = tape.byteAt(k++);
                toldHours[l] = tape.byteAt(k++);
            }
        }

        void kindle(int lie, int inches) {
            tallow -= inches;
            setCandle(lie, inches);
        }

        void setCandle(int lie, int inches) {
            candles[lie] = inches;
            toldHours[lie] = 0;
        }

        void putOut(int lie) {
            setCandle(lie, 0);
        }

        int quench(int lie) {
            int left = candles[lie];
            addTallow(left);
            putOut(lie);
            return left;
        }

        void addTallow(int inches) {
            tallow = Math.min(MOST_TALLOW, tallow + inches);
        }

        void burn(int lie, int inches) {
            candles[lie] -= Math.max(0, Math.min(candles[lie], inches));
            toldHours[lie] = Math.min(MOST_TOLD, toldHours[lie] + 1);
        }

        void swapHomes(int person, int other) {
            int home = homes[person];
            homes[person] = homes[other];
            homes[other] = home;
        }
    }

    /** What is KEPT: a ring, of which only the last MOST_KEPT are told. */
    private static final class Log {
        private final int[] hoursKept = new int[MOST_KEPT];
        private final int[] liesKept = new int[MOST_KEPT];
        private int first = 0;
        private int count = 0;

        void copyFrom(Log other) {
            first = other.first;
            count = other.count;
            System.arraycopy(other.hoursKept, 0, hoursKept, 0, MOST_KEPT);
            System.arraycopy(other.liesKept, 0, liesKept, 0, MOST_KEPT);
        }

        void addAll(int hour, int lies) {
            for (int l = 0; l < MOST_LIES; l++) {
                if ((lies >> l & 1) == 1) {
                    add(hour, l);
                }
            }
        }

        private void add(int hour, int lie) {
            int k = (first + count) % MOST_KEPT;
            hoursKept[k] = hour;
            liesKept[k] = lie;
            if (count < MOST_KEPT) {
                count++;
            } else {
                first = (first + 1) % MOST_KEPT;
            }
        }

        int hourOf(int k) {
            return hoursKept[(first + k) % MOST_KEPT];
        }

        int lieOf(int k) {
            return liesKept[(first + k) % MOST_KEPT];
        }
    }

    /** How things stood ahead of each ACT that can be undone: a ring, made once. */
    private static final class Past {
        private final State[] states = new State[MOST_UNDONE];
        private final Log[] logs = new Log[MOST_UNDONE];
        private int next = 0;
        private int count = 0;

        Past() {
            for (int k = 0; k < MOST_UNDONE; k++) {
                states[k] = new State();
                logs[k] = new Log();
            }
        }

        void remember(State state, Log log) {
            states[next].copyFrom(state);
            logs[next].copyFrom(log);
            next = (next + 1) % MOST_UNDONE;
            count = Math.min(MOST_UNDONE, count + 1);
        }

        boolean recall(State state, Log log) {
            if (count == 0) {
                return false;
            }
            count--;
            next = (next + MOST_UNDONE - 1) % MOST_UNDONE;
            state.copyFrom(states[next]);
            log.copyFrom(logs[next]);
            return true;
        }
    }

    /** Reckons with the codes of a street: how draughty it is, what burns, what is believed. */
    private static final class Reckoner {
        private Street street;
        private final int[] stack = new int[STACK_ROOM];
        // What each word that stands for a number is now, by the word's number.
        private final int[] meanings = new int[WAX];
        private final int[] burnt = new int[MOST_LIES];
        // How many LIES are lit in each WINDOW, while a QUESTION is answered.
        private final int[] glows = new int[MOST_WINDOWS];

        Reckoner(Street street) {
            this.street = street;
        }

        int litLies(State state) {
            int set = 0;
            for (int l = 0; l < street.lies; l++) {
                if (state.candles[l] > 0) {
                    set |= 1 << l;
                }
            }
            return set;
        }

        int litOf(State state, int person) {
            int count = 0;
            for (int l = 0; l < street.lies; l++) {
                if (street.owners[l] == person && state.candles[l] > 0) {
                    count++;
                }
            }
            return count;
        }

        int litIn(State state, int window) {
            int count = 0;
            for (int l = 0; l < street.lies; l++) {
                if (state.candles[l] > 0 && state.homes[street.owners[l]] == window) {
                    count++;
                }
            }
            return count;
        }

        int nearTo(State state, int lie) {
            int window = state.homes[street.owners[lie]];
            int count = 0;
            for (int l = 0; l < street.lies; l++) {
                if (l != lie && state.candles[l] > 0) {
                    int apart = state.homes[street.owners[l]] - window;
                    if (apart >= -1 && apart <= 1) {
                        count++;
                    }
                }
            }
            return count;
        }

        int draughty(State state, int window, int hour) {
            meanings[PLACE] = window;
            meanings[HOUR] = hour;
            return draughtyBy(run(state, street.code, DRAFTS_CODE));
        }

        private static int draughtyBy(int sum) {
            return Math.max(0, Math.min(MOST_DRAUGHTY, sum));
        }

        /** The LIES that are BELIEVED, as bits: a LIE hangs on one told ahead of it, so one round is enough. */
        int believed(State state) {
            int set = 0;
            for (int l = 0; l < street.lies; l++) {
                int base = street.bases[l];
                boolean based = base < 0 || (set >> base & 1) == 1;
                if (based && state.candles[l] > 0) {
                    set |= reckon(state, l, street.code, BELIEVES_CODE) << l;
                }
            }
            return set;
        }

        /** A gust: the LIES that it puts OUT, as bits. */
        int blow(State state, int window) {
            int gone = 0;
            for (int l = 0; l < street.lies; l++) {
                if (state.candles[l] > 0 && state.homes[street.owners[l]] == window) {
                    state.putOut(l);
                    gone |= 1 << l;
                }
            }
            return gone;
        }

        /** An HOUR without a DRAW: the LIES that are OUT by it, as bits. */
        int pass(State state) {
            lightPlanned(state);
            // All burn at once: none may be shorter while another one's burning is reckoned.
            for (int l = 0; l < street.lies; l++) {
                if (state.candles[l] > 0) {
                    burnt[l] = reckon(state, l, street.code, BURNS_CODE);
                }
            }
            int gone = 0;
            for (int l = 0; l < street.lies; l++) {
                if (state.candles[l] > 0) {
                    state.burn(l, burnt[l]);
                    if (state.candles[l] == 0) {
                        state.putOut(l);
                        gone |= 1 << l;
                    }
                }
            }
            state.hour = Math.min(LAST_HOUR, state.hour + 1);
            return gone;
        }

        long answer(State state, Code question, int kind) {
            int believed = believed(state);
            long answer = kind == FIRST || kind == LAST ? NONE : 0;
            for (int w = 0; w < street.windows; w++) {
                glows[w] = litIn(state, w);
            }
            for (int l = 0; l < street.lies; l++) {
                meanings[HELD] = believed >> l & 1;
                answer = joined(kind, answer, l, reckon(state, l, question, QUESTION_CODE));
            }
            return answer;
        }

        private static long joined(int kind, long answer, int lie, int value) {
            switch (kind) {
                case FIRST: return answer == NONE && value != 0 ? lie : answer;
                case LAST: return value != 0 ? lie : answer;
                case OFTEN:
                case TOTAL: return answer + value;
                case MOST: return lie == 0 || value > answer ? value : answer;
                default: return lie == 0 || value < answer ? value : answer;
            }
        }

        private void lightPlanned(State state) {
            for (int k = 0; k < street.rows; k++) {
                int lie = street.rowLies[k];
                int inches = street.rowInches[k];
                if (street.rowHours[k] == state.hour && state.candles[lie] == 0 && inches <= state.tallow) {
                    state.kindle(lie, inches);
                }
            }
        }

        /** What a sum or a test is for a LIE (whether it is BELIEVED is put ahead of a QUESTION). */
        private int reckon(State state, int lie, Code code, int which) {
            int owner = street.owners[lie];
            int words = code.words[which];
            meanings[HOUR] = state.hour;
            meanings[PLACE] = state.homes[owner];
            if ((words >> NEAR & 1) == 1) {
                meanings[NEAR] = nearTo(state, lie);
            }
            if ((words >> DRAFT & 1) == 1) {
                meanings[DRAFT] = draughtyBy(run(state, street.code, DRAFTS_CODE));
            }
            meanings[INCHES] = state.candles[lie];
            meanings[TOLD] = state.toldHours[lie];
            meanings[TRUST] = street.trusts[owner];
            meanings[NUMBER] = lie;
            meanings[LIT] = state.candles[lie] > 0 ? 1 : 0;
            return run(state, code, which);
        }

        private int run(State state, Code code, int which) {
            int top = 0;
            for (int k = code.from[which]; k < code.to[which]; k++) {
                int cell = code.cells[k];
                int what = ~cell;
                if (what < WAX) {
                    if (top < STACK_ROOM) {
                        stack[top++] = cell >= 0 ? cell : meanings[what];
                    }
                } else if (what == NOT || what == WAX || what == GLOW) {
                    if (top > 0) {
                        stack[top - 1] = ofOne(state, what, stack[top - 1]);
                    }
                } else if (top > 1) {
                    top--;
                    stack[top - 1] = ofTwo(what, stack[top - 1], stack[top]);
                }
            }
            return top > 0 ? stack[0] : 0;
        }

        private int ofOne(State state, int what, int a) {
            switch (what) {
                case WAX: return a >= 0 && a < street.lies ? state.candles[a] : 0;
                case GLOW: return a >= 0 && a < street.windows ? glows[a] : 0;
                default: return 1 - a;
            }
        }

        private static int ofTwo(int what, int a, int b) {
            long value;
            switch (what) {
                case '+': value = (long) a + b; break;
                case '-': value = (long) a - b; break;
                case '*': value = (long) a * b; break;
                case '/': value = b == 0 ? 0 : Math.floorDiv(a, b); break;
                case '<': value = a < b ? 1 : 0; break;
                case '>': value = a > b ? 1 : 0; break;
                case '=': value = a == b ? 1 : 0; break;
                case OR: value = a | b; break;
                case AND: value = a & b; break;
                case MIN: value = a < b ? a : b; break;
                default: value = a > b ? a : b; break;
            }
            return (int) (value > LIMIT ? LIMIT : value < -LIMIT ? -LIMIT : value);
        }
    }

    /** Tries HOURS ahead on a state of its own, so that nothing of what is now changes. */
    private static final class Foresight {
        private final Reckoner reckoner;
        private final State now;
        private final State then = new State();
        private int keystoneLie = NONE;
        private int keystoneCount = 0;
        private int changeLess = NONE;
        private int changeOther = NONE;
        private int changeCount = 0;

        Foresight(Reckoner reckoner, State now) {
            this.reckoner = reckoner;
            this.now = now;
        }

        /** How many HOURS can come, of those that are asked at the most. */
        int reach(int most) {
            return Math.min(most, LAST_HOUR - now.hour);
        }

        boolean comes(int n, int least, int most) {
            return n >= least && n <= reach(most);
        }

        State restart() {
            then.copyFrom(now);
            return then;
        }

        /** The LIES that are BELIEVED so many HOURS behind what is tried, as bits. */
        int believedBehind(int n) {
            for (int k = 0; k < n; k++) {
                reckoner.pass(then);
            }
            return reckoner.believed(then);
        }

        int firstUnlit(int lie) {
            restart();
            int most = reach(AHEAD);
            for (int n = 1; n <= most; n++) {
                reckoner.pass(then);
                if (then.candles[lie] == 0) {
                    return n;
                }
            }
            return NONE;
        }

        /** Behind how many HOURS a LIE is BELIEVED first or, having been so, is not any more first. */
        int firstTrust(int lie, boolean lost) {
            restart();
            int most = reach(AHEAD);
            boolean been = false;
            for (int n = 0; n <= most; n++) {
                boolean is = (reckoner.believed(then) >> lie & 1) == 1;
                if (lost ? been && !is : is) {
                    return n;
                }
                been = been || is;
                reckoner.pass(then);
            }
            return NONE;
        }

        int shortCandle(int set, int n) {
            int unlit = set & ~reckoner.litLies(now);
            // Where all are lit already, no length changes anything.
            int most = unlit == 0 ? 1 : MOST_INCHES;
            for (int inches = 1; inches <= most; inches++) {
                restart();
                for (int l = 0; l < MOST_LIES; l++) {
                    if ((unlit >> l & 1) == 1) {
                        then.setCandle(l, inches);
                    }
                }
                if ((believedBehind(n) & set) == set) {
                    return inches;
                }
            }
            return NONE;
        }

        void searchKeystone(int n) {
            keystoneLie = NONE;
            keystoneCount = MOST_LIES + 1;
            for (int l = 0; l < MOST_LIES; l++) {
                if (now.candles[l] > 0) {
                    restart().quench(l);
                    int count = Integer.bitCount(believedBehind(n));
                    if (count < keystoneCount) {
                        keystoneLie = l;
                        keystoneCount = count;
                    }
                }
            }
        }

        void searchChange(int n) {
            restart();
            changeLess = NONE;
            changeOther = NONE;
            changeCount = Integer.bitCount(believedBehind(n));
            int people = reckoner.street.people;
            for (int p = 0; p < people; p++) {
                for (int q = p + 1; q < people; q++) {
                    restart();
                    then.swapHomes(p, q);
                    int count = Integer.bitCount(believedBehind(n));
                    if (count > changeCount) {
                        changeLess = p;
                        changeOther = q;
                        changeCount = count;
                    }
                }
            }
        }

        int oddsOf(int lie) {
            int windows = reckoner.street.windows;
            int gust = reckoner.street.gust;
            restart();
            int rows = (ALL_DRAWS - gust) * windows * (believedBehind(1) >> lie & 1);
            for (int w = 0; w < windows; w++) {
                restart();
                reckoner.blow(then, w);
                rows += gust * (believedBehind(1) >> lie & 1);
            }
            return rows;
        }
    }

    /** What is SEEN, how long a candle can be by it, and what would tell most of that. */
    private static final class Sight {
        private final Foresight foresight;
        private final Reckoner reckoner;
        private final State then;
        private final int[] seen = new int[MOST_SEEN * SEEN_BYTES];
        private int rows = 0;
        private final int[] lengths = new int[MOST_INCHES];
        private int count = 0;
        // How often so many are lit, by HOUR and by the PERSON behind the WINDOW: where nobody is, none is ever lit.
        private final int[] tally = new int[SEEN_AHEAD * MOST_PEOPLE * (MOST_LIES + 1)];
        private int tellingHours = 0;
        private int tellingWindow = 0;
        private int tellingLeft = 0;

        Sight(Foresight foresight) {
            this.foresight = foresight;
            reckoner = foresight.reckoner;
            then = foresight.then;
        }

        boolean take(Tape tape, int windows) {
            int told = tape.length / SEEN_BYTES;
            if (told < 1 || told > MOST_SEEN || told * SEEN_BYTES != tape.length) {
                return false;
            }
            for (int k = 0; k < tape.length; k += SEEN_BYTES) {
                if (tape.byteAt(k) > SEEN_AHEAD || tape.byteAt(k + 1) >= windows || tape.byteAt(k + 2) > MOST_LIES) {
                    return false;
                }
            }
            System.arraycopy(tape.bytes, 0, seen, 0, tape.length);
            rows = told;
            return true;
        }

        /** Finds the INCHES of a lit LIE, rising. */
        void gather(int lie) {
            int last = lastSeen();
            count = 0;
            if (last > foresight.reach(SEEN_AHEAD)) {
                return;
            }
            for (int inches = 1; inches <= MOST_INCHES; inches++) {
                foresight.restart().candles[lie] = inches;
                if (isAllSo(last)) {
                    lengths[count++] = inches;
                }
            }
        }

        private int lastSeen() {
            int last = 0;
            for (int k = 0; k < rows; k++) {
                last = Math.max(last, seen[k * SEEN_BYTES]);
            }
            return last;
        }

        private boolean isAllSo(int last) {
            for (int n = 0; n <= last; n++) {
                if (n > 0) {
                    reckoner.pass(then);
                }
                for (int k = 0; k < rows * SEEN_BYTES; k += SEEN_BYTES) {
                    if (seen[k] == n && reckoner.litIn(then, seen[k + 1]) != seen[k + 2]) {
                        return false;
                    }
                }
            }
            return true;
        }

        void searchTelling(int lie) {
            int reach = foresight.reach(SEEN_AHEAD);
            tallyAll(lie, reach);
            // A WINDOW that tells nothing leaves them all; of like ones this is the first.
            tellingHours = 1;
            tellingWindow = 0;
            tellingLeft = count;
            for (int n = 1; n <= reach; n++) {
                for (int w = 0; w < reckoner.street.windows; w++) {
                    int left = mostLeft(n, w);
                    if (left < tellingLeft) {
                        tellingHours = n;
                        tellingWindow = w;
                        tellingLeft = left;
                    }
                }
            }
        }

        private void tallyAll(int lie, int reach) {
            int people = reckoner.street.people;
            for (int k = 0; k < tally.length; k++) {
                tally[k] = 0;
            }
            for (int k = 0; k < count; k++) {
                foresight.restart().candles[lie] = lengths[k];
                for (int n = 1; n <= reach; n++) {
                    reckoner.pass(then);
                    for (int p = 0; p < people; p++) {
                        tally[tallyFrom(n, p) + reckoner.litIn(then, then.homes[p])]++;
                    }
                }
            }
        }

        private static int tallyFrom(int n, int person) {
            return ((n - 1) * MOST_PEOPLE + person) * (MOST_LIES + 1);
        }

        private int mostLeft(int n, int window) {
            for (int p = 0; p < reckoner.street.people; p++) {
                if (then.homes[p] == window) {
                    int from = tallyFrom(n, p);
                    int most = 0;
                    for (int k = from; k <= from + MOST_LIES; k++) {
                        most = Math.max(most, tally[k]);
                    }
                    return most;
                }
            }
            return count;
        }
    }
}
