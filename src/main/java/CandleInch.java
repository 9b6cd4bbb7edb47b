import java.util.Arrays;

/** A vault library by candle: readers at tables, their inches and lists, and what can be asked of them. */
public final class CandleInch {
    public static final int NONE = -1;

    private static final int BOOKS = 0;
    private static final int PAGES = 1;
    private static final int READERS = 2;
    private static final int TABLES = 3;
    private static final int SORTS = 4;

    private static final int MOST_BOOKS = 5;
    private static final int MOST_PAGES = 14;
    private static final int MOST_READERS = 6;
    private static final int MOST_TABLES = 5;
    private static final int MOST_NEEDS = 20;
    private static final int MOST_STATEMENTS = 80;
    private static final int MOST_LISTED = 8;
    private static final int MOST_OPEN = 7;
    private static final int MOST_TOLD = 60;
    private static final int MOST_UNDONE = 20;
    private static final int MOST_NIGHT = 999;
    private static final int MOST_WAX = 9999;
    private static final int MOST_WINTER = 30;
    private static final int MOST_ASKED = 99;
    private static final int MOST_MINUTES = 500;
    private static final int MOST_SHARED = 8;
    private static final int MOST_SHARERS = 3;
    private static final int MOST_RESULT = 1000000;
    private static final int TAPE_LENGTH = 1600;
    private static final int FEED_LENGTH = 20;
    private static final int NAME_LENGTH = 6;
    private static final int NUMBER_LENGTH = 4;
    private static final int USUAL_INCH = 60;
    private static final int WINTER_DRAFT = 3;
    private static final int ALL_TOGETHER = 20;
    private static final int DRAW_FACTOR = 1103515245;
    private static final int DRAW_STEP = 12345;
    /** The lowest 31 bits, which are what is left of a number by 2 to the 31. */
    private static final int DRAW_BITS = 0x7fffffff;

    /** Where the names of each sort begin in a shelf's row of names. */
    private static final int[] FIRST_NAME = {0, 5, 19, 25};
    private static final int MOST_NAMES = 30;

    private static final int KIND_END = 0;
    private static final int KIND_NAME = 1;
    private static final int KIND_OWN = 2;
    private static final int KIND_NUMBER = 3;
    private static final int KIND_SIGN = 4;
    private static final int KIND_BAD = 5;

    /** Each own word fills seven columns, so that its column tells its number. */
    private static final String OWN_WORDS = "book   page   of     lines  big    needs  reader pace   eyes   table  draft  inch   burns  takes  tells  print  knows  sittingnight  or     and    not    all    min    max    ";
    private static final int OWN_COLUMNS = 7;
    private static final int OWN_COUNT = 25;
    private static final int WORD_BOOK = 0;
    private static final int WORD_PAGE = 1;
    private static final int WORD_OF = 2;
    private static final int WORD_LINES = 3;
    private static final int WORD_BIG = 4;
    private static final int WORD_NEEDS = 5;
    private static final int WORD_READER = 6;
    private static final int WORD_PACE = 7;
    private static final int WORD_EYES = 8;
    private static final int WORD_TABLE = 9;
    private static final int WORD_DRAFT = 10;
    private static final int WORD_INCH = 11;
    private static final int WORD_BURNS = 12;
    private static final int WORD_TAKES = 13;
    private static final int WORD_TELLS = 14;
    private static final int WORD_PRINT = 15;
    private static final int WORD_KNOWS = 16;
    private static final int WORD_SITTING = 17;
    private static final int WORD_NIGHT = 18;
    private static final int WORD_OR = 19;
    private static final int WORD_AND = 20;
    private static final int WORD_NOT = 21;
    private static final int WORD_ALL = 22;
    private static final int WORD_MIN = 23;
    private static final int WORD_MAX = 24;

    private static final int FAULT_TEXT = 1;
    private static final int FAULT_GIVEN = 2;
    private static final int FAULT_NAME = 3;
    private static final int FAULT_NUMBER = 4;
    private static final int FAULT_OPEN = 5;
    private static final int FAULT_MANY = 6;

    private static final int RULE_BURNS = 0;
    private static final int RULE_TAKES = 1;
    private static final int RULE_TELLS = 2;
    private static final int RULES = 3;

    /** In a rule's code a number stands for itself, a value is its word behind FIRST_VALUE, the rest are operators. */
    private static final int FIRST_VALUE = 10000;
    private static final int FIRST_OPERATOR = 10100;
    private static final int DO_ADD = 10100;
    private static final int DO_LESSEN = 10101;
    private static final int DO_TIMES = 10102;
    private static final int DO_DIVIDE = 10103;
    private static final int DO_REST = 10104;
    private static final int DO_MIN = 10105;
    private static final int DO_MAX = 10106;
    private static final int DO_BELOW = 10107;
    private static final int DO_ABOVE = 10108;
    private static final int DO_SAME = 10109;
    private static final int DO_AND = 10110;
    private static final int DO_OR = 10111;
    private static final int DO_NOT = 10112;

    /** A hall's row: what is of the hall, then as many fields for each reader. */
    private static final int ROW_NIGHT = 0;
    private static final int ROW_WAX = 1;
    private static final int ROW_KEPT = 2;
    private static final int ROW_HEAD = 3;
    private static final int HIS_TABLE = 0;
    private static final int HIS_READ = 1;
    private static final int HIS_HEARD = 2;
    private static final int HIS_LEFT = 3;
    private static final int HIS_INTO = 4;
    private static final int HIS_LISTED = 5;
    private static final int HIS_LIST = 6;
    private static final int HIS_FIELDS = 14;
    private static final int ROW_LENGTH = 87;
    /** Nobody reads a page twice, so no more pages than this are ever kept. */
    private static final int LOG_LENGTH = 84;

    private static final int MOST_IMAGE = 107;
    private static final int CHECK_START = 83;
    private static final int CHECK_SIZE = 251;

    private static final int REFUSED_TAPE = 0;
    private static final int REFUSED_LIBRARY = 1;
    private static final int REFUSED_ACT = 2;
    private static final int REFUSED_NIGHT = 3;
    private static final int REFUSED_UNDO = 4;
    private static final int REFUSED_OTHER = 5;
    private static final int REFUSALS = 6;

    private final Tape tape;
    private final Parser parser;
    private final Hall hall;
    private final Sums sums;
    private final Evening evening;
    private final Study study;
    private final Sharing sharing;
    private final Seating seating;
    private final Picture picture;
    private final int[] refused;
    private Shelf spare;
    private int draw;

    public CandleInch() {
        tape = new Tape();
        parser = new Parser(tape);
        hall = new Hall(new Shelf());
        spare = new Shelf();
        sums = new Sums(hall);
        Course course = new Course(hall, sums);
        evening = new Evening(hall, sums, course);
        study = new Study(hall, sums);
        sharing = new Sharing(hall, sums, study);
        seating = new Seating(hall, sums, course);
        picture = new Picture();
        refused = new int[REFUSALS];
        draw = 1;
    }

    // ---- the text

    public int feed(int a, int b, int c, int d, int e) {
        if (tape.length + FEED_LENGTH > TAPE_LENGTH) {
            return refuse(REFUSED_TAPE);
        }
        tape.put(a);
        tape.put(b);
        tape.put(c);
        tape.put(d);
        tape.put(e);
        return tape.length;
    }

    public boolean end(int n) {
        if (n < 0 || n > tape.length) {
            return deny(REFUSED_TAPE);
        }
        tape.length = n;
        return true;
    }

    public int library() {
        int told = parser.parse(spare);
        tape.length = 0;
        if (told == NONE) {
            return refuse(REFUSED_LIBRARY);
        }
        Shelf before = hall.shelf;
        hall.open(spare);
        spare = before;
        return told;
    }

    public int fault(int what) {
        switch (what) {
            case 0: return parser.fault;
            case 1: return parser.place;
            default: return NONE;
        }
    }

    public int has(int what) {
        switch (what) {
            case 0: return hall.shelf.count[BOOKS];
            case 1: return hall.shelf.count[PAGES];
            case 2: return hall.shelf.needCount;
            case 3: return hall.shelf.count[READERS];
            case 4: return hall.shelf.count[TABLES];
            case 5: return hall.shelf.inch;
            case 6: return hall.row[ROW_NIGHT];
            case 7: return hall.row[ROW_WAX];
            case 8: return hall.toldAsKept();
            case 9: return hall.knownByAll();
            case 10: return hall.pastCount;
            case 11: return draw;
            default: return NONE;
        }
    }

    public int letter(int kind, int which, int k) {
        if (kind < 0 || kind >= SORTS || k < 0 || k >= NAME_LENGTH || !hall.shelf.holds(kind, which)) {
            return NONE;
        }
        return hall.shelf.names[(FIRST_NAME[kind] + which) * NAME_LENGTH + k];
    }

    public int page(int page, int what) {
        Shelf shelf = hall.shelf;
        if (!shelf.holds(PAGES, page)) {
            return NONE;
        }
        switch (what) {
            case 0: return shelf.bookOf[page];
            case 1: return shelf.lines[page];
            case 2: return shelf.print[page];
            case 3: return shelf.needs[page];
            case 4: return shelf.needsAll[page];
            case 5: return hall.knownBy(page);
            default: return NONE;
        }
    }

    public int reader(int reader, int what) {
        Shelf shelf = hall.shelf;
        if (!shelf.holds(READERS, reader)) {
            return NONE;
        }
        switch (what) {
            case 0: return hall.of(reader, HIS_TABLE);
            case 1: return shelf.pace[reader];
            case 2: return shelf.eyes[reader];
            case 3: return hall.of(reader, HIS_READ);
            case 4: return hall.of(reader, HIS_HEARD);
            case 5: return hall.of(reader, HIS_LEFT);
            case 6: return hall.of(reader, HIS_INTO);
            case 7: return hall.of(reader, HIS_LISTED);
            default: return what < 10 ? NONE : hall.listed(reader, what - 10);
        }
    }

    public int table(int table, int what) {
        if (!hall.shelf.holds(TABLES, table)) {
            return NONE;
        }
        switch (what) {
            case 0: return hall.shelf.draft[table];
            case 1: return hall.sittingAt(table);
            case 2: return sums.lightAt(table, hall.shelf.draft[table]);
            default: return NONE;
        }
    }

    // ---- reading

    public int takes(int reader, int page) {
        if (!hall.shelf.holds(READERS, reader) || !hall.shelf.holds(PAGES, page)) {
            return NONE;
        }
        sums.setNow(reader);
        return sums.pageMinutes(page);
    }

    public int burns(int reader) {
        if (!hall.shelf.holds(READERS, reader)) {
            return NONE;
        }
        sums.setNow(reader);
        return sums.inchMinutes();
    }

    public int tonight(int reader, int what) {
        if (!hall.shelf.holds(READERS, reader) || what < 0 || what > 4) {
            return NONE;
        }
        evening.foresee(NONE);
        switch (what) {
            case 0: return evening.count[reader];
            case 1: return evening.bits[reader];
            case 2: return evening.stop[reader];
            case 3: return evening.left[reader];
            default: return evening.into[reader];
        }
    }

    public int whole(int what) {
        if (what < 0 || what > 3) {
            return NONE;
        }
        evening.foresee(NONE);
        switch (what) {
            case 0: return evening.allRead();
            case 1: return evening.allLight();
            case 2: return evening.allWax();
            default: return evening.idle();
        }
    }

    // ---- acts

    public boolean seat(int reader, int table) {
        if (!hall.shelf.holds(READERS, reader) || !hall.shelf.holds(TABLES, table)
                || hall.of(reader, HIS_TABLE) == table) {
            return deny(REFUSED_ACT);
        }
        hall.remember();
        hall.set(reader, HIS_TABLE, table);
        return true;
    }

    public boolean list(int reader, int page) {
        if (!hall.shelf.holds(READERS, reader) || !hall.shelf.holds(PAGES, page)
                || !hall.mayList(reader, page)) {
            return deny(REFUSED_ACT);
        }
        hall.remember();
        hall.putBehind(reader, page);
        return true;
    }

    public int drop(int reader) {
        if (!hall.shelf.holds(READERS, reader)) {
            return refuse(REFUSED_ACT);
        }
        hall.remember();
        int listed = hall.of(reader, HIS_LISTED);
        hall.set(reader, HIS_LISTED, 0);
        hall.set(reader, HIS_LEFT, NONE);
        hall.set(reader, HIS_INTO, 0);
        return listed;
    }

    public boolean tell(int from, int to, int page) {
        if (!hall.shelf.holds(READERS, from) || !hall.shelf.holds(READERS, to)
                || !hall.shelf.holds(PAGES, page) || !mayTell(from, to, page)) {
            return deny(REFUSED_ACT);
        }
        hall.remember();
        hall.set(to, HIS_HEARD, hall.of(to, HIS_HEARD) | (1 << page));
        hall.strike(to, page);
        return true;
    }

    public int night() {
        if (hall.row[ROW_NIGHT] >= MOST_NIGHT) {
            return refuse(REFUSED_NIGHT);
        }
        hall.remember();
        return passNight(NONE);
    }

    public int winter(int n) {
        int tables = hall.shelf.count[TABLES];
        if (n < 1 || n > MOST_WINTER || hall.row[ROW_NIGHT] + n > MOST_NIGHT || tables == 0) {
            return refuse(REFUSED_NIGHT);
        }
        hall.remember();
        int read = 0;
        for (int k = 0; k < n; k++) {
            read += passNight(drawOf(tables));
        }
        return read;
    }

    public boolean undo() {
        if (!hall.recall()) {
            return deny(REFUSED_UNDO);
        }
        return true;
    }

    public boolean seed(int seed) {
        if (seed < 0) {
            return deny(REFUSED_OTHER);
        }
        draw = seed;
        return true;
    }

    public int kept(int k, int what) {
        int told = hall.toldAsKept();
        if (k < 0 || k >= told) {
            return NONE;
        }
        int entry = hall.log[hall.row[ROW_KEPT] - told + k];
        switch (what) {
            case 0: return entry >> 7;
            case 1: return (entry >> 4) & 7;
            case 2: return entry & 15;
            default: return NONE;
        }
    }

    // ---- questions

    public int work(int reader, int question, int what) {
        if (!hall.shelf.holds(READERS, reader) || !hall.shelf.isQuestion(question)) {
            return NONE;
        }
        switch (what) {
            case 0: return study.workOf(reader, question, NONE);
            case 1: return study.nightsOf(reader, question);
            case 2: return study.pagesOf(reader, question, NONE);
            default: return NONE;
        }
    }

    public int scholar(int question) {
        if (!hall.shelf.isQuestion(question)) {
            return NONE;
        }
        int best = NONE;
        int fewest = 0;
        for (int r = 0; r < hall.shelf.count[READERS]; r++) {
            int nights = study.nightsOf(r, question);
            if (nights != NONE && (best == NONE || nights < fewest)) {
                best = r;
                fewest = nights;
            }
        }
        return best;
    }

    public int shared(int question, int k) {
        if (!hall.shelf.isQuestion(question) || question == 0 || Integer.bitCount(question) > MOST_SHARED) {
            return NONE;
        }
        boolean ofIt = k >= 0 && k < MOST_PAGES && (question & (1 << k)) != 0;
        if (k != NONE && k != ALL_TOGETHER && !ofIt) {
            return NONE;
        }
        sharing.find(question);
        if (sharing.nights == NONE || k == NONE) {
            return sharing.nights;
        }
        return k == ALL_TOGETHER ? sharing.minutes : sharing.readerOf(k);
    }

    public int seated(int k) {
        int readers = hall.shelf.count[READERS];
        boolean known = k == NONE || k == ALL_TOGETHER || (k >= 0 && k < readers);
        if (readers == 0 || !known) {
            return NONE;
        }
        seating.find();
        if (k == NONE) {
            return seating.pagesRead();
        }
        return k == ALL_TOGETHER ? seating.waxSaved() : seating.tableOf(k);
    }

    public int most(int reader, int n, int what) {
        if (!hall.shelf.holds(READERS, reader) || n < 0 || n > MOST_ASKED) {
            return NONE;
        }
        if (what < 0 || what > 2) {
            return NONE;
        }
        study.findMost(reader, n);
        switch (what) {
            case 0: return study.mostCount;
            case 1: return study.mostBits;
            default: return study.mostMinutes;
        }
    }

    public int wax(int reader, int minutes, int what) {
        if (!hall.shelf.holds(READERS, reader) || minutes < 0 || what < 0 || what > 2) {
            return NONE;
        }
        study.findSets(reader, minutes);
        switch (what) {
            case 0: return study.setCount;
            case 1: return study.setCount == 0 ? 0 : study.setAll;
            default: return study.setSome;
        }
    }

    public int index(int question, int what) {
        if (!hall.shelf.isQuestion(question) || what < 0 || what > 1) {
            return NONE;
        }
        int before = study.workOfAll(question, NONE);
        int least = before;
        int best = NONE;
        for (int p = 0; p < hall.shelf.count[PAGES]; p++) {
            int left = (question & (1 << p)) != 0 ? before : study.workOfAll(question, p);
            if (left < least) {
                least = left;
                best = p;
            }
        }
        return best == NONE || what == 0 ? best : before - least;
    }

    // ---- images, refusals

    public int image() {
        picture.write(hall);
        return picture.length;
    }

    public int octet(int k) {
        return k >= 0 && k < picture.length ? picture.bytes[k] : NONE;
    }

    public boolean on() {
        boolean good = picture.read(tape, hall.shelf);
        tape.length = 0;
        if (!good) {
            return deny(REFUSED_OTHER);
        }
        hall.become(picture.row);
        return true;
    }

    public int status(int what) {
        return what >= 0 && what < REFUSALS ? refused[what] : NONE;
    }

    private int refuse(int which) {
        refused[which]++;
        return NONE;
    }

    private boolean deny(int which) {
        refused[which]++;
        return false;
    }

    private boolean mayTell(int from, int to, int page) {
        int bit = 1 << page;
        if (hall.of(from, HIS_TABLE) != hall.of(to, HIS_TABLE) || (hall.of(from, HIS_READ) & bit) == 0) {
            return false;
        }
        int known = hall.known(to);
        if ((known & bit) != 0 || !hall.shelf.mayRead(known, page)) {
            return false;
        }
        sums.setNow(to);
        return sums.mayHear(page);
    }

    private int passNight(int cold) {
        evening.foresee(cold);
        evening.happen();
        return evening.allRead();
    }

    private int drawOf(int m) {
        draw = (DRAW_FACTOR * draw + DRAW_STEP) & DRAW_BITS;
        return m > 0 ? (draw / 64) % m : 0;
    }

    /** The bytes that were fed, and what stands on them, one word, number or sign at a time. */
    private static final class Tape {
        final int[] bytes = new int[TAPE_LENGTH];
        int length;
        int kind;
        int start;
        int past;
        int value;
        int badAt;

        void put(int number) {
            for (int shift = 24; shift >= 0 && length < TAPE_LENGTH; shift -= 8) {
                bytes[length] = (number >>> shift) & 255;
                length++;
            }
        }

        int byteAt(int k) {
            return k >= 0 && k < length ? bytes[k] : NONE;
        }

        void rewind() {
            past = 0;
            kind = KIND_END;
            step();
        }

        void step() {
            boolean behindWord = kind == KIND_NAME || kind == KIND_OWN || kind == KIND_NUMBER;
            start = past;
            while (start < length && (bytes[start] == 10 || bytes[start] == 32)) {
                start++;
            }
            boolean glued = behindWord && start == past;
            int first = byteAt(start);
            int most = 1;
            kind = first == NONE ? KIND_END : KIND_SIGN;
            value = first;
            past = first == NONE ? start : start + 1;
            if (isLetter(first)) {
                past = endOfWord();
                value = ownWord();
                kind = value == NONE ? KIND_NAME : KIND_OWN;
                most = value == NONE ? NAME_LENGTH : OWN_COLUMNS;
            } else if (isDigit(first)) {
                past = endOfNumber();
                value = number();
                kind = KIND_NUMBER;
                most = NUMBER_LENGTH;
            }
            // side by side they need a blank; where it lacks comes ahead of where a word or number is too long
            badAt = start;
            if (glued && kind != KIND_SIGN && kind != KIND_END) {
                kind = KIND_BAD;
            } else if (past - start > most) {
                kind = KIND_BAD;
                badAt = start + most;
            }
        }

        private int endOfWord() {
            int at = start;
            while (at < length && isLetter(bytes[at])) {
                at++;
            }
            return at;
        }

        private int endOfNumber() {
            int at = start;
            while (at < length && isDigit(bytes[at])) {
                at++;
            }
            return at;
        }

        /** Of a number that is too long the digits too many don't count, so that it stays an int. */
        private int number() {
            int number = 0;
            for (int at = start; at < past && at < start + NUMBER_LENGTH; at++) {
                number = number * 10 + bytes[at] - '0';
            }
            return number;
        }

        private int ownWord() {
            int size = past - start;
            if (size > OWN_COLUMNS) {
                return NONE;
            }
            for (int word = 0; word < OWN_COUNT; word++) {
                int column = word * OWN_COLUMNS;
                int same = 0;
                while (same < size && OWN_WORDS.charAt(column + same) == bytes[start + same]) {
                    same++;
                }
                if (same == size && (size == OWN_COLUMNS || OWN_WORDS.charAt(column + size) == ' ')) {
                    return word;
                }
            }
            return NONE;
        }

        boolean isOwn(int word) {
            return kind == KIND_OWN && value == word;
        }

        boolean isSign(int sign) {
            return kind == KIND_SIGN && value == sign;
        }

        private static boolean isLetter(int c) {
            return c >= 'a' && c <= 'z';
        }

        private static boolean isDigit(int c) {
            return c >= '0' && c <= '9';
        }
    }

    /** What a text tells: books, pages, readers, tables, and the code of its rules. */
    private static final class Shelf {
        final int[] count = new int[SORTS];
        final int[] names = new int[MOST_NAMES * NAME_LENGTH];
        final int[] bookOf = new int[MOST_PAGES];
        final int[] lines = new int[MOST_PAGES];
        final int[] print = new int[MOST_PAGES];
        final int[] needs = new int[MOST_PAGES];
        final int[] needsAll = new int[MOST_PAGES];
        final int[] pace = new int[MOST_READERS];
        final int[] eyes = new int[MOST_READERS];
        final int[] draft = new int[MOST_TABLES];
        final int[] code = new int[TAPE_LENGTH];
        final int[] ruleFrom = new int[RULES];
        final int[] ruleTo = new int[RULES];
        int codeLength;
        int needCount;
        int inch;

        Shelf() {
            clear();
        }

        void clear() {
            Arrays.fill(count, 0);
            Arrays.fill(names, 0);
            Arrays.fill(print, 0);
            Arrays.fill(needs, 0);
            Arrays.fill(ruleTo, 0);
            codeLength = 0;
            needCount = 0;
            inch = USUAL_INCH;
        }

        boolean holds(int sort, int which) {
            return which >= 0 && which < count[sort];
        }

        boolean isQuestion(int question) {
            return question >= 0 && question < (1 << count[PAGES]);
        }

        boolean mayRead(int known, int page) {
            return (needs[page] & ~known) == 0;
        }

        /** A rule is there once its code has an end, which is never 0 then. */
        boolean hasRule(int rule) {
            return ruleTo[rule] > 0;
        }

        void emit(int what) {
            if (codeLength < TAPE_LENGTH) {
                code[codeLength] = what;
                codeLength++;
            }
        }

        void giveName(int sort, Tape tape) {
            int at = (FIRST_NAME[sort] + count[sort]) * NAME_LENGTH;
            for (int k = 0; k < NAME_LENGTH; k++) {
                names[at + k] = letterAt(tape, k);
            }
            count[sort]++;
        }

        int findName(int sort, Tape tape) {
            for (int which = 0; which < count[sort]; which++) {
                int at = (FIRST_NAME[sort] + which) * NAME_LENGTH;
                int same = 0;
                while (same < NAME_LENGTH && names[at + same] == letterAt(tape, same)) {
                    same++;
                }
                if (same == NAME_LENGTH) {
                    return which;
                }
            }
            return NONE;
        }

        private static int letterAt(Tape tape, int k) {
            return tape.start + k < tape.past ? tape.byteAt(tape.start + k) - 'a' + 1 : 0;
        }

        /** A page needs earlier pages alone, so what those need is whole when its turn comes. */
        void gatherNeeds() {
            for (int p = 0; p < count[PAGES]; p++) {
                int all = needs[p];
                for (int q = 0; q < p; q++) {
                    if ((needs[p] & (1 << q)) != 0) {
                        all |= needsAll[q];
                    }
                }
                needsAll[p] = all;
            }
        }
    }

    /** Makes a shelf of the text on a tape, or tells the first fault along it. */
    private static final class Parser {
        final Tape tape;
        Shelf shelf;
        int fault;
        int place = NONE;
        int open;

        Parser(Tape tape) {
            this.tape = tape;
        }

        int parse(Shelf into) {
            shelf = into;
            shelf.clear();
            fault = 0;
            place = NONE;
            open = 0;
            tape.rewind();
            int told = 0;
            while (told <= MOST_STATEMENTS && tape.kind != KIND_END) {
                if (!statement(told)) {
                    return NONE;
                }
                told++;
            }
            if (shelf.count[READERS] > 0 && shelf.count[TABLES] == 0) {
                fail(FAULT_TEXT, tape.length);
                return NONE;
            }
            shelf.gatherNeeds();
            return told;
        }

        private boolean statement(int told) {
            int word = tape.kind == KIND_OWN ? tape.value : NONE;
            // the 81st is one too many whatever it is: its first byte comes ahead of any fault within it
            int room = told < MOST_STATEMENTS ? roomFor(word) : 0;
            if (room == NONE) {
                return refuseWord();
            }
            if (room == 0) {
                return fail(FAULT_MANY, tape.start);
            }
            tape.step();
            boolean good;
            switch (word) {
                case WORD_BOOK: good = give(BOOKS); break;
                case WORD_PAGE: good = tellPage(); break;
                case WORD_NEEDS: good = tellNeed(); break;
                case WORD_READER: good = tellReader(); break;
                case WORD_TABLE: good = tellTable(); break;
                case WORD_INCH: good = tellInch(); break;
                case WORD_BURNS: good = beginRule(RULE_BURNS) && parseSum() && endRule(RULE_BURNS); break;
                case WORD_TAKES: good = beginRule(RULE_TAKES) && parseSum() && endRule(RULE_TAKES); break;
                default: good = beginRule(RULE_TELLS) && parseTest() && endRule(RULE_TELLS); break;
            }
            return good && wantSign(';');
        }

        /** How many more such statements there may be; NONE when no statement begins with the word. */
        private int roomFor(int word) {
            switch (word) {
                case WORD_BOOK: return MOST_BOOKS - shelf.count[BOOKS];
                case WORD_PAGE: return MOST_PAGES - shelf.count[PAGES];
                case WORD_NEEDS: return MOST_NEEDS - shelf.needCount;
                case WORD_READER: return MOST_READERS - shelf.count[READERS];
                case WORD_TABLE: return MOST_TABLES - shelf.count[TABLES];
                case WORD_INCH: return 1;
                case WORD_BURNS: return shelf.hasRule(RULE_BURNS) ? 0 : 1;
                case WORD_TAKES: return shelf.hasRule(RULE_TAKES) ? 0 : 1;
                case WORD_TELLS: return shelf.hasRule(RULE_TELLS) ? 0 : 1;
                default: return NONE;
            }
        }

        private boolean tellPage() {
            int page = shelf.count[PAGES];
            if (!give(PAGES) || !wantOwn(WORD_OF)) {
                return false;
            }
            int book = askName(BOOKS);
            if (book == NONE) {
                return false;
            }
            shelf.bookOf[page] = book;
            tape.step();
            int lines = wantOwn(WORD_LINES) ? askNumber(1, 99) : NONE;
            if (lines == NONE) {
                return false;
            }
            shelf.lines[page] = lines;
            if (tape.isOwn(WORD_BIG)) {
                shelf.print[page] = 1;
                tape.step();
            }
            return true;
        }

        private boolean tellNeed() {
            int page = askName(PAGES);
            if (page == NONE) {
                return false;
            }
            tape.step();
            int needed = askName(PAGES);
            if (needed == NONE) {
                return false;
            }
            if (needed >= page || (shelf.needs[page] & (1 << needed)) != 0) {
                return fail(FAULT_NAME, tape.start);
            }
            shelf.needs[page] |= 1 << needed;
            shelf.needCount++;
            tape.step();
            return true;
        }

        private boolean tellReader() {
            int reader = shelf.count[READERS];
            int pace = give(READERS) && wantOwn(WORD_PACE) ? askNumber(1, 9) : NONE;
            if (pace == NONE) {
                return false;
            }
            shelf.pace[reader] = pace;
            int eyes = wantOwn(WORD_EYES) ? askNumber(0, 9) : NONE;
            if (eyes == NONE) {
                return false;
            }
            shelf.eyes[reader] = eyes;
            return true;
        }

        private boolean tellTable() {
            int table = shelf.count[TABLES];
            int draft = give(TABLES) && wantOwn(WORD_DRAFT) ? askNumber(0, 9) : NONE;
            if (draft == NONE) {
                return false;
            }
            shelf.draft[table] = draft;
            return true;
        }

        private boolean tellInch() {
            int inch = askNumber(10, 120);
            if (inch == NONE) {
                return false;
            }
            shelf.inch = inch;
            return true;
        }

        private boolean beginRule(int rule) {
            shelf.ruleFrom[rule] = shelf.codeLength;
            return true;
        }

        private boolean endRule(int rule) {
            shelf.ruleTo[rule] = shelf.codeLength;
            return true;
        }

        private boolean parseTest() {
            boolean good = parseBoth();
            for (int k = 0; k < TAPE_LENGTH && good && tape.isOwn(WORD_OR); k++) {
                tape.step();
                good = parseBoth();
                shelf.emit(DO_OR);
            }
            return good;
        }

        private boolean parseBoth() {
            boolean good = parseFact();
            for (int k = 0; k < TAPE_LENGTH && good && tape.isOwn(WORD_AND); k++) {
                tape.step();
                good = parseFact();
                shelf.emit(DO_AND);
            }
            return good;
        }

        private boolean parseFact() {
            if (tape.isOwn(WORD_NOT)) {
                return openOne() && parseNegated();
            }
            if (tape.isSign('[')) {
                return openOne() && parseTest() && closeOne(']');
            }
            if (tape.isOwn(WORD_ALL)) {
                tape.step();
                shelf.emit(1);
                return true;
            }
            if (!parseSum()) {
                return false;
            }
            int operator = signOperator();
            if (!isTestOperator(operator)) {
                return refuseWord();
            }
            tape.step();
            boolean good = parseSum();
            shelf.emit(operator);
            return good;
        }

        /** A not is open until its fact ends. */
        private boolean parseNegated() {
            boolean good = parseFact();
            open--;
            shelf.emit(DO_NOT);
            return good;
        }

        private boolean parseSum() {
            boolean good = parseProduct();
            for (int k = 0; k < TAPE_LENGTH && good && isSumOperator(signOperator()); k++) {
                int operator = signOperator();
                tape.step();
                good = parseProduct();
                shelf.emit(operator);
            }
            return good;
        }

        private boolean parseProduct() {
            boolean good = parsePart();
            for (int k = 0; k < TAPE_LENGTH && good && isProductOperator(signOperator()); k++) {
                int operator = signOperator();
                tape.step();
                good = parsePart();
                shelf.emit(operator);
            }
            return good;
        }

        private boolean parsePart() {
            if (tape.kind == KIND_NUMBER) {
                shelf.emit(tape.value);
                tape.step();
                return true;
            }
            if (tape.isSign('(')) {
                return openOne() && parseSum() && closeOne(')');
            }
            int word = tape.kind == KIND_OWN ? tape.value : NONE;
            if (word == WORD_MIN || word == WORD_MAX) {
                tape.step();
                if (!tape.isSign('(')) {
                    return refuseWord();
                }
                boolean good = openOne() && parseSum() && wantSign(',') && parseSum() && closeOne(')');
                shelf.emit(word == WORD_MIN ? DO_MIN : DO_MAX);
                return good;
            }
            if (!isValue(word)) {
                return refuseWord();
            }
            shelf.emit(FIRST_VALUE + word);
            tape.step();
            return true;
        }

        private static boolean isValue(int word) {
            switch (word) {
                case WORD_LINES: case WORD_PRINT: case WORD_PACE: case WORD_EYES: case WORD_KNOWS:
                case WORD_DRAFT: case WORD_SITTING: case WORD_INCH: case WORD_NIGHT: return true;
                default: return false;
            }
        }

        private int signOperator() {
            if (tape.kind != KIND_SIGN) {
                return NONE;
            }
            switch (tape.value) {
                case '+': return DO_ADD;
                case '-': return DO_LESSEN;
                case '*': return DO_TIMES;
                case '/': return DO_DIVIDE;
                case '%': return DO_REST;
                case '<': return DO_BELOW;
                case '>': return DO_ABOVE;
                case '=': return DO_SAME;
                default: return NONE;
            }
        }

        private static boolean isSumOperator(int operator) {
            return operator == DO_ADD || operator == DO_LESSEN;
        }

        private static boolean isProductOperator(int operator) {
            return operator == DO_TIMES || operator == DO_DIVIDE || operator == DO_REST;
        }

        private static boolean isTestOperator(int operator) {
            return operator == DO_BELOW || operator == DO_ABOVE || operator == DO_SAME;
        }

        private boolean openOne() {
            if (open == MOST_OPEN) {
                return fail(FAULT_OPEN, tape.start);
            }
            open++;
            tape.step();
            return true;
        }

        private boolean closeOne(int sign) {
            open--;
            return wantSign(sign);
        }

        private boolean give(int sort) {
            if (tape.kind != KIND_NAME) {
                return refuseWord();
            }
            for (int other = 0; other < SORTS; other++) {
                if (shelf.findName(other, tape) != NONE) {
                    return fail(FAULT_GIVEN, tape.start);
                }
            }
            shelf.giveName(sort, tape);
            tape.step();
            return true;
        }

        /** Stays at the name, whose place a fault of its caller may need. */
        private int askName(int sort) {
            if (tape.kind != KIND_NAME) {
                refuseWord();
                return NONE;
            }
            int which = shelf.findName(sort, tape);
            if (which == NONE) {
                fail(FAULT_NAME, tape.start);
            }
            return which;
        }

        private int askNumber(int least, int most) {
            if (tape.kind != KIND_NUMBER) {
                refuseWord();
                return NONE;
            }
            int number = tape.value;
            if (number < least || number > most) {
                fail(FAULT_NUMBER, tape.start);
                return NONE;
            }
            tape.step();
            return number;
        }

        private boolean wantOwn(int word) {
            if (!tape.isOwn(word)) {
                return refuseWord();
            }
            tape.step();
            return true;
        }

        private boolean wantSign(int sign) {
            if (!tape.isSign(sign)) {
                return refuseWord();
            }
            tape.step();
            return true;
        }

        private boolean refuseWord() {
            return fail(FAULT_TEXT, tape.badAt);
        }

        private boolean fail(int kind, int where) {
            fault = kind;
            place = where;
            return false;
        }
    }

    /** All that acts change, as one row, with the rows that it was ahead of the latest acts. */
    private static final class Hall {
        Shelf shelf;
        final int[] row = new int[ROW_LENGTH];
        final int[] log = new int[LOG_LENGTH];
        final int[] past = new int[MOST_UNDONE * ROW_LENGTH];
        int pastNext;
        int pastCount;
        /** Grows with every change, so that answers found before can be used until then. */
        int stamp;

        Hall(Shelf first) {
            open(first);
        }

        void open(Shelf told) {
            shelf = told;
            Arrays.fill(row, 0);
            for (int r = 0; r < MOST_READERS; r++) {
                set(r, HIS_LEFT, NONE);
            }
            forget();
        }

        void become(int[] other) {
            System.arraycopy(other, 0, row, 0, ROW_LENGTH);
            forget();
        }

        private void forget() {
            pastNext = 0;
            pastCount = 0;
            stamp++;
        }

        void remember() {
            System.arraycopy(row, 0, past, pastNext * ROW_LENGTH, ROW_LENGTH);
            pastNext = (pastNext + 1) % MOST_UNDONE;
            pastCount = Math.min(MOST_UNDONE, pastCount + 1);
            stamp++;
        }

        boolean recall() {
            if (pastCount == 0) {
                return false;
            }
            pastNext = (pastNext + MOST_UNDONE - 1) % MOST_UNDONE;
            pastCount--;
            System.arraycopy(past, pastNext * ROW_LENGTH, row, 0, ROW_LENGTH);
            stamp++;
            return true;
        }

        int of(int reader, int field) {
            return row[ROW_HEAD + reader * HIS_FIELDS + field];
        }

        void set(int reader, int field, int value) {
            row[ROW_HEAD + reader * HIS_FIELDS + field] = value;
        }

        int known(int reader) {
            return of(reader, HIS_READ) | of(reader, HIS_HEARD);
        }

        int listed(int reader, int k) {
            return k >= 0 && k < of(reader, HIS_LISTED) ? of(reader, HIS_LIST + k) : NONE;
        }

        int sittingAt(int table) {
            int sitting = 0;
            for (int r = 0; r < shelf.count[READERS]; r++) {
                if (of(r, HIS_TABLE) == table) {
                    sitting++;
                }
            }
            return sitting;
        }

        int knownBy(int page) {
            int readers = 0;
            for (int r = 0; r < shelf.count[READERS]; r++) {
                readers += (known(r) >> page) & 1;
            }
            return readers;
        }

        int knownByAll() {
            int all = 0;
            for (int r = 0; r < shelf.count[READERS]; r++) {
                all += Integer.bitCount(known(r));
            }
            return all;
        }

        int toldAsKept() {
            return Math.min(MOST_TOLD, row[ROW_KEPT]);
        }

        boolean mayList(int reader, int page) {
            int listed = of(reader, HIS_LISTED);
            return listed < MOST_LISTED && (known(reader) & (1 << page)) == 0 && placeOf(reader, page) == listed;
        }

        void putBehind(int reader, int page) {
            int listed = of(reader, HIS_LISTED);
            if (listed < MOST_LISTED) {
                set(reader, HIS_LIST + listed, page);
                set(reader, HIS_LISTED, listed + 1);
            }
        }

        /** A page that is known leaves the list, and cannot be left off any more. */
        void strike(int reader, int page) {
            int listed = of(reader, HIS_LISTED);
            int place = placeOf(reader, page);
            if (place < listed) {
                for (int k = place; k + 1 < listed; k++) {
                    set(reader, HIS_LIST + k, of(reader, HIS_LIST + k + 1));
                }
                set(reader, HIS_LISTED, listed - 1);
            }
            if (of(reader, HIS_LEFT) == page) {
                set(reader, HIS_LEFT, NONE);
                set(reader, HIS_INTO, 0);
            }
        }

        private int placeOf(int reader, int page) {
            int listed = of(reader, HIS_LISTED);
            int place = 0;
            while (place < listed && of(reader, HIS_LIST + place) != page) {
                place++;
            }
            return place;
        }

        void keep(int reader, int page) {
            int kept = row[ROW_KEPT];
            if (kept < LOG_LENGTH) {
                log[kept] = (row[ROW_NIGHT] << 7) | (reader << 4) | page;
                row[ROW_KEPT] = kept + 1;
            }
        }
    }

    /** Runs the code of the rules for one reader at a table. */
    private static final class Sums {
        /** Seven open at once hold some three values each; this is far above. */
        final int[] stack = new int[64];
        final int[] values = new int[OWN_COUNT];
        final Hall hall;

        Sums(Hall hall) {
            this.hall = hall;
        }

        void setNow(int reader) {
            int table = hall.of(reader, HIS_TABLE);
            setAt(reader, hall.shelf.draft[table], hall.sittingAt(table), Integer.bitCount(hall.known(reader)));
        }

        void setAt(int reader, int draft, int sitting, int knows) {
            values[WORD_PACE] = hall.shelf.pace[reader];
            values[WORD_EYES] = hall.shelf.eyes[reader];
            values[WORD_KNOWS] = knows;
            values[WORD_DRAFT] = draft;
            values[WORD_SITTING] = sitting;
            values[WORD_INCH] = hall.shelf.inch;
            values[WORD_NIGHT] = hall.row[ROW_NIGHT];
        }

        int inchMinutes() {
            if (!hall.shelf.hasRule(RULE_BURNS)) {
                return hall.shelf.inch;
            }
            values[WORD_LINES] = 0;
            values[WORD_PRINT] = 0;
            return Math.max(0, Math.min(MOST_MINUTES, run(RULE_BURNS)));
        }

        int pageMinutes(int page) {
            if (!hall.shelf.hasRule(RULE_TAKES)) {
                return hall.shelf.lines[page];
            }
            setPage(page);
            return Math.max(1, Math.min(MOST_MINUTES, run(RULE_TAKES)));
        }

        boolean mayHear(int page) {
            if (!hall.shelf.hasRule(RULE_TELLS)) {
                return true;
            }
            setPage(page);
            return run(RULE_TELLS) != 0;
        }

        int lightAt(int table, int draft) {
            int light = 0;
            int sitting = hall.sittingAt(table);
            for (int r = 0; r < hall.shelf.count[READERS]; r++) {
                if (hall.of(r, HIS_TABLE) == table) {
                    setAt(r, draft, sitting, Integer.bitCount(hall.known(r)));
                    light += inchMinutes();
                }
            }
            return light;
        }

        private void setPage(int page) {
            values[WORD_LINES] = hall.shelf.lines[page];
            values[WORD_PRINT] = hall.shelf.print[page];
        }

        private int run(int rule) {
            int[] code = hall.shelf.code;
            int to = Math.min(hall.shelf.ruleTo[rule], code.length);
            int top = 0;
            stack[0] = 0;
            for (int k = hall.shelf.ruleFrom[rule]; k < to; k++) {
                int what = code[k];
                if (what < FIRST_OPERATOR) {
                    if (top < stack.length) {
                        stack[top] = what < FIRST_VALUE ? what : values[what - FIRST_VALUE];
                        top++;
                    }
                } else if (what == DO_NOT) {
                    if (top > 0) {
                        stack[top - 1] = 1 - stack[top - 1];
                    }
                } else if (top > 1) {
                    top--;
                    stack[top - 1] = join(what, stack[top - 1], stack[top]);
                }
            }
            return stack[0];
        }

        private static int join(int operator, long a, long b) {
            switch (operator) {
                case DO_ADD: return bounded(a + b);
                case DO_LESSEN: return bounded(a - b);
                case DO_TIMES: return bounded(a * b);
                case DO_DIVIDE: return b == 0 ? 0 : bounded(Math.floorDiv(a, b));
                case DO_REST: return b == 0 ? 0 : bounded(Math.floorMod(a, b));
                case DO_MIN: return bounded(a < b ? a : b);
                case DO_MAX: return bounded(a > b ? a : b);
                case DO_BELOW: return a < b ? 1 : 0;
                case DO_ABOVE: return a > b ? 1 : 0;
                case DO_SAME: return a == b ? 1 : 0;
                case DO_AND: return bounded(a & b);
                default: return bounded(a | b);
            }
        }

        private static int bounded(long result) {
            if (result > MOST_RESULT) {
                return MOST_RESULT;
            }
            return result < -MOST_RESULT ? -MOST_RESULT : (int) result;
        }
    }

    /** The pages in the order in which one reader would read them if the light never ended. */
    private static final class Course {
        final Hall hall;
        final Sums sums;
        final int[] pages = new int[MOST_LISTED];
        final int[] ends = new int[MOST_LISTED];
        int length;
        int done;

        Course(Hall hall, Sums sums) {
            this.hall = hall;
            this.sums = sums;
        }

        void lay(int reader, int draft, int sitting, boolean goesOn) {
            int known = hall.known(reader);
            int left = goesOn ? hall.of(reader, HIS_LEFT) : NONE;
            int page = left != NONE && hall.shelf.mayRead(known, left) ? left : nextPage(reader, known);
            done = page != NONE && page == left ? hall.of(reader, HIS_INTO) : 0;
            length = 0;
            int minute = -done;
            while (page != NONE && length < MOST_LISTED) {
                sums.setAt(reader, draft, sitting, Integer.bitCount(known));
                minute = Math.max(0, minute + sums.pageMinutes(page));
                pages[length] = page;
                ends[length] = minute;
                length++;
                known |= 1 << page;
                page = nextPage(reader, known);
            }
        }

        private int nextPage(int reader, int known) {
            int listed = hall.of(reader, HIS_LISTED);
            for (int k = 0; k < listed; k++) {
                int page = hall.listed(reader, k);
                if (page != NONE && (known & (1 << page)) == 0 && hall.shelf.mayRead(known, page)) {
                    return page;
                }
            }
            return NONE;
        }

        /** Without light not even a page that is as good as done is begun. */
        int readBy(int light) {
            int read = 0;
            while (light > 0 && read < length && ends[read] <= light) {
                read++;
            }
            return read;
        }

        int stopBy(int light) {
            return length == 0 ? 0 : Math.min(light, ends[length - 1]);
        }

        int beginOf(int k) {
            return k == 0 ? 0 : ends[k - 1];
        }
    }

    /** A night for all readers as it would be, which can be made to happen. */
    private static final class Evening {
        final Hall hall;
        final Sums sums;
        final Course course;
        final int[] light = new int[MOST_TABLES];
        final int[] last = new int[MOST_TABLES];
        final int[] count = new int[MOST_READERS];
        final int[] bits = new int[MOST_READERS];
        final int[] stop = new int[MOST_READERS];
        final int[] left = new int[MOST_READERS];
        final int[] into = new int[MOST_READERS];
        final int[] order = new int[MOST_READERS * MOST_LISTED];

        Evening(Hall hall, Sums sums, Course course) {
            this.hall = hall;
            this.sums = sums;
            this.course = course;
        }

        void foresee(int cold) {
            for (int t = 0; t < hall.shelf.count[TABLES]; t++) {
                light[t] = sums.lightAt(t, draftAt(t, cold));
                last[t] = 0;
            }
            for (int r = 0; r < hall.shelf.count[READERS]; r++) {
                int table = hall.of(r, HIS_TABLE);
                course.lay(r, draftAt(table, cold), hall.sittingAt(table), true);
                follow(r, light[table]);
                last[table] = Math.max(last[table], stop[r]);
            }
        }

        private int draftAt(int table, int cold) {
            return hall.shelf.draft[table] + (table == cold ? WINTER_DRAFT : 0);
        }

        private void follow(int reader, int minutes) {
            int read = course.readBy(minutes);
            count[reader] = read;
            bits[reader] = 0;
            for (int k = 0; k < read; k++) {
                order[reader * MOST_LISTED + k] = course.pages[k];
                bits[reader] |= 1 << course.pages[k];
            }
            stop[reader] = course.stopBy(minutes);
            if (minutes == 0 || course.length == 0) {
                left[reader] = hall.of(reader, HIS_LEFT);
                into[reader] = hall.of(reader, HIS_INTO);
            } else if (read < course.length && course.beginOf(read) < minutes) {
                left[reader] = course.pages[read];
                into[reader] = (read == 0 ? course.done : 0) + minutes - course.beginOf(read);
            } else {
                left[reader] = NONE;
                into[reader] = 0;
            }
        }

        void happen() {
            hall.row[ROW_NIGHT]++;
            hall.row[ROW_WAX] = Math.min(MOST_WAX, hall.row[ROW_WAX] + allWax());
            for (int r = 0; r < hall.shelf.count[READERS]; r++) {
                hall.set(r, HIS_READ, hall.of(r, HIS_READ) | bits[r]);
                for (int k = 0; k < count[r]; k++) {
                    int page = order[r * MOST_LISTED + k];
                    hall.strike(r, page);
                    hall.keep(r, page);
                }
                hall.set(r, HIS_LEFT, left[r]);
                hall.set(r, HIS_INTO, into[r]);
            }
        }

        int allRead() {
            int all = 0;
            for (int r = 0; r < hall.shelf.count[READERS]; r++) {
                all += count[r];
            }
            return all;
        }

        int allLight() {
            int all = 0;
            for (int t = 0; t < hall.shelf.count[TABLES]; t++) {
                all += light[t];
            }
            return all;
        }

        int allWax() {
            int all = 0;
            for (int t = 0; t < hall.shelf.count[TABLES]; t++) {
                all += light[t] - last[t];
            }
            return all;
        }

        int idle() {
            int all = 0;
            for (int r = 0; r < hall.shelf.count[READERS]; r++) {
                if (count[r] == 0) {
                    all++;
                }
            }
            return all;
        }
    }

    /** What one reader has to read for a question, could read in some nights, or has read by the wax. */
    private static final class Study {
        final Hall hall;
        final Sums sums;
        /** How long each page takes the reader in question; behind them all that comes from it on. */
        final int[] takes = new int[MOST_PAGES];
        final int[] takesFrom = new int[MOST_PAGES + 1];
        int mostCount;
        int mostBits;
        int mostMinutes;
        int setCount;
        int setAll;
        int setSome;
        private int limit;
        private int mostStamp = NONE;
        private int mostReader;
        private int mostNights;
        private int setStamp = NONE;
        private int setReader;
        private int setMinutes;

        Study(Hall hall, Sums sums) {
            this.hall = hall;
            this.sums = sums;
        }

        private int lightOf(int reader) {
            int table = hall.of(reader, HIS_TABLE);
            return sums.lightAt(table, hall.shelf.draft[table]);
        }

        /** Pages need earlier ones alone, so one way from the last page down meets them all. */
        int pagesOf(int reader, int question, int indexed) {
            int open = ~hall.known(reader);
            int wanted = question & open;
            int needed = indexed == NONE ? open : open & ~(1 << indexed);
            for (int p = hall.shelf.count[PAGES] - 1; p >= 0; p--) {
                if ((wanted & (1 << p)) != 0) {
                    wanted |= hall.shelf.needs[p] & needed;
                }
            }
            return wanted;
        }

        int workOf(int reader, int question, int indexed) {
            int pages = pagesOf(reader, question, indexed);
            sums.setNow(reader);
            int work = 0;
            for (int p = 0; p < hall.shelf.count[PAGES]; p++) {
                if ((pages & (1 << p)) != 0) {
                    work += sums.pageMinutes(p);
                }
            }
            return work;
        }

        int workOfAll(int question, int indexed) {
            int all = 0;
            for (int r = 0; r < hall.shelf.count[READERS]; r++) {
                all += workOf(r, question, indexed);
            }
            return all;
        }

        int nightsOf(int reader, int question) {
            return nightsFor(workOf(reader, question, NONE), lightOf(reader));
        }

        static int nightsFor(int work, int light) {
            if (work == 0) {
                return 0;
            }
            return light > 0 ? (work + light - 1) / light : NONE;
        }

        void findMost(int reader, int nights) {
            if (mostStamp == hall.stamp && mostReader == reader && mostNights == nights) {
                return;
            }
            mostStamp = hall.stamp;
            mostReader = reader;
            mostNights = nights;
            limit = nights * lightOf(reader);
            sums.setNow(reader);
            measurePages();
            mostCount = NONE;
            mostBits = 0;
            mostMinutes = 0;
            chooseMost(this, 0, 0, 0, 0);
        }

        private void measurePages() {
            int pages = hall.shelf.count[PAGES];
            takesFrom[pages] = 0;
            for (int p = pages - 1; p >= 0; p--) {
                takes[p] = sums.pageMinutes(p);
                takesFrom[p] = takesFrom[p + 1] + takes[p];
            }
        }

        /** With a page before without it: large sets come first, and the rest is cut off soon. */
        private static void chooseMost(Study study, int page, int set, int count, int minutes) {
            Shelf shelf = study.hall.shelf;
            int pages = shelf.count[PAGES];
            int reach = count + pages - page;
            if (reach < study.mostCount || (reach == study.mostCount && minutes > study.mostMinutes)) {
                return;
            }
            if (page >= pages) {
                study.tryMost(set, count, minutes);
                return;
            }
            int known = study.hall.known(study.mostReader);
            int then = minutes + study.takes[page];
            if ((known & (1 << page)) == 0 && then <= study.limit && shelf.mayRead(known | set, page)) {
                chooseMost(study, page + 1, set | (1 << page), count + 1, then);
            }
            chooseMost(study, page + 1, set, count, minutes);
        }

        private void tryMost(int set, int count, int minutes) {
            if (count > mostCount || minutes < mostMinutes || set < mostBits) {
                mostCount = count;
                mostBits = set;
                mostMinutes = minutes;
            }
        }

        void findSets(int reader, int minutes) {
            if (setStamp == hall.stamp && setReader == reader && setMinutes == minutes) {
                return;
            }
            setStamp = hall.stamp;
            setReader = reader;
            setMinutes = minutes;
            int table = hall.of(reader, HIS_TABLE);
            sums.setAt(reader, hall.shelf.draft[table], hall.sittingAt(table), 0);
            measurePages();
            setCount = 0;
            setAll = ~0;
            setSome = 0;
            chooseSets(this, 0, 0, minutes);
        }

        private static void chooseSets(Study study, int page, int set, int rest) {
            Shelf shelf = study.hall.shelf;
            if (page >= shelf.count[PAGES]) {
                if (rest == 0) {
                    study.addSet(set);
                }
                return;
            }
            if (rest > study.takesFrom[page]) {
                return;
            }
            if (study.takes[page] <= rest && shelf.mayRead(set, page)) {
                chooseSets(study, page + 1, set | (1 << page), rest - study.takes[page]);
            }
            chooseSets(study, page + 1, set, rest);
        }

        private void addSet(int set) {
            setCount++;
            setAll &= set;
            setSome |= set;
        }
    }

    /** How the first readers share a question best. */
    private static final class Sharing {
        final Hall hall;
        final Sums sums;
        final Study study;
        int nights;
        int minutes;
        private int stamp = NONE;
        private int asked;
        private int pages;
        private int sharers;
        private final int[] pageAt = new int[MOST_SHARED];
        private final int[] given = new int[MOST_SHARED];
        private final int[] best = new int[MOST_SHARED];
        private final int[] light = new int[MOST_SHARERS];
        private final int[] takes = new int[MOST_SHARERS * MOST_PAGES];
        private final int[] asks = new int[MOST_SHARERS * MOST_SHARED];
        private final int[] part = new int[MOST_SHARERS];
        private final int[] spent = new int[MOST_SHARERS];

        Sharing(Hall hall, Sums sums, Study study) {
            this.hall = hall;
            this.sums = sums;
            this.study = study;
        }

        int readerOf(int page) {
            for (int k = 0; k < pages; k++) {
                if (pageAt[k] == page) {
                    return best[k];
                }
            }
            return NONE;
        }

        void find(int question) {
            if (stamp == hall.stamp && asked == question) {
                return;
            }
            stamp = hall.stamp;
            asked = question;
            pages = 0;
            for (int p = 0; p < hall.shelf.count[PAGES] && pages < MOST_SHARED; p++) {
                if ((question & (1 << p)) != 0) {
                    pageAt[pages] = p;
                    pages++;
                }
            }
            sharers = Math.min(MOST_SHARERS, hall.shelf.count[READERS]);
            for (int s = 0; s < sharers; s++) {
                measure(s);
            }
            nights = NONE;
            minutes = 0;
            share(this, 0, 0, 0);
        }

        private void measure(int sharer) {
            int table = hall.of(sharer, HIS_TABLE);
            light[sharer] = sums.lightAt(table, hall.shelf.draft[table]);
            part[sharer] = 0;
            spent[sharer] = 0;
            sums.setNow(sharer);
            for (int p = 0; p < hall.shelf.count[PAGES]; p++) {
                takes[sharer * MOST_PAGES + p] = sums.pageMinutes(p);
            }
            for (int k = 0; k < pages; k++) {
                asks[sharer * MOST_SHARED + k] = study.pagesOf(sharer, 1 << pageAt[k], NONE);
            }
        }

        /** Nights and minutes only grow from page to page, so what is no better already is left. */
        private static void share(Sharing sharing, int k, int most, int all) {
            if (sharing.isNoBetter(most, all)) {
                return;
            }
            if (k >= sharing.pages) {
                sharing.take(most, all);
                return;
            }
            for (int s = 0; s < sharing.sharers; s++) {
                int before = sharing.part[s];
                int spentBefore = sharing.spent[s];
                int added = sharing.asks[s * MOST_SHARED + k] & ~before;
                int more = sharing.minutesOf(s, added);
                int his = Study.nightsFor(spentBefore + more, sharing.light[s]);
                if (his != NONE) {
                    sharing.given[k] = s;
                    sharing.part[s] = before | added;
                    sharing.spent[s] = spentBefore + more;
                    share(sharing, k + 1, Math.max(most, his), all + more);
                    sharing.part[s] = before;
                    sharing.spent[s] = spentBefore;
                }
            }
        }

        private boolean isNoBetter(int most, int all) {
            return nights != NONE && (most > nights || (most == nights && all >= minutes));
        }

        private void take(int most, int all) {
            nights = most;
            minutes = all;
            System.arraycopy(given, 0, best, 0, MOST_SHARED);
        }

        private int minutesOf(int sharer, int set) {
            int all = 0;
            for (int p = 0; p < hall.shelf.count[PAGES]; p++) {
                if ((set & (1 << p)) != 0) {
                    all += takes[sharer * MOST_PAGES + p];
                }
            }
            return all;
        }
    }

    /** Where all readers sit best: each table is weighed with each set of readers, then the tables are joined. */
    private static final class Seating {
        /** A weight is pages, wax, and the seats by number taken off; all three add up over the tables. */
        static final long SEATS = 16384L;
        static final long WAXES = 4096L;
        static final long NEVER = -1000000000000L;
        static final int SETS = 64;

        final Hall hall;
        final Sums sums;
        final Course course;
        private final int[] burn = new int[MOST_READERS];
        private final int[] lengths = new int[MOST_READERS];
        private final int[] ends = new int[MOST_READERS * MOST_LISTED];
        private final int[] seatWeight = new int[MOST_READERS];
        private final long[] weight = new long[SETS];
        private final long[] best = new long[SETS];
        private int stamp = NONE;
        private int pages;
        private int wax;
        private int seats;

        Seating(Hall hall, Sums sums, Course course) {
            this.hall = hall;
            this.sums = sums;
            this.course = course;
        }

        int pagesRead() {
            return pages;
        }

        int waxSaved() {
            return wax;
        }

        int tableOf(int reader) {
            int tables = hall.shelf.count[TABLES];
            return tables > 0 && seatWeight[reader] > 0 ? seats / seatWeight[reader] % tables : 0;
        }

        void find() {
            if (stamp == hall.stamp) {
                return;
            }
            stamp = hall.stamp;
            int tables = hall.shelf.count[TABLES];
            int readers = hall.shelf.count[READERS];
            int weightOfSeat = 1;
            for (int r = readers - 1; r >= 0; r--) {
                seatWeight[r] = weightOfSeat;
                weightOfSeat *= tables;
            }
            Arrays.fill(best, NEVER);
            best[0] = 0;
            for (int t = 0; t < tables; t++) {
                weighTable(t, readers);
                joinTable((1 << readers) - 1);
            }
            tellFound(best[(1 << readers) - 1]);
        }

        private void tellFound(long found) {
            long taken = Math.floorMod(-found, SEATS);
            long rest = (found + taken) / SEATS;
            seats = (int) taken;
            wax = (int) (rest % WAXES);
            pages = (int) (rest / WAXES);
        }

        /** What a reader does there hangs on how many sit there alone, but for the light. */
        private void weighTable(int table, int readers) {
            weight[0] = 0;
            for (int sitting = 1; sitting <= readers; sitting++) {
                for (int r = 0; r < readers; r++) {
                    sums.setAt(r, hall.shelf.draft[table], sitting, Integer.bitCount(hall.known(r)));
                    burn[r] = sums.inchMinutes();
                    course.lay(r, hall.shelf.draft[table], sitting, false);
                    lengths[r] = course.length;
                    System.arraycopy(course.ends, 0, ends, r * MOST_LISTED, MOST_LISTED);
                }
                for (int set = 1; set < (1 << readers); set++) {
                    if (Integer.bitCount(set) == sitting) {
                        weight[set] = weigh(table, set, readers);
                    }
                }
            }
        }

        private long weigh(int table, int set, int readers) {
            int light = 0;
            int taken = 0;
            for (int r = 0; r < readers; r++) {
                if ((set & (1 << r)) != 0) {
                    light += burn[r];
                    taken += table * seatWeight[r];
                }
            }
            long read = 0;
            int last = 0;
            for (int r = 0; r < readers; r++) {
                if ((set & (1 << r)) != 0) {
                    int k = 0;
                    while (k < lengths[r] && ends[r * MOST_LISTED + k] <= light) {
                        k++;
                    }
                    read += k;
                    last = Math.max(last, k < lengths[r] ? light : lastEnd(r));
                }
            }
            return (read * WAXES + light - last) * SEATS - taken;
        }

        private int lastEnd(int reader) {
            return lengths[reader] == 0 ? 0 : ends[reader * MOST_LISTED + lengths[reader] - 1];
        }

        /** From the full set down, so that the smaller sets are still those without this table. */
        private void joinTable(int full) {
            for (int set = full; set > 0; set--) {
                long found = best[set];
                for (int here = set; here > 0; here = (here - 1) & set) {
                    found = Math.max(found, best[set & ~here] + weight[here]);
                }
                best[set] = found;
            }
        }
    }

    /** The latest image, and the row that an image on the tape tells. */
    private static final class Picture {
        final int[] bytes = new int[MOST_IMAGE];
        final int[] row = new int[ROW_LENGTH];
        int length;
        private int at;

        void write(Hall hall) {
            length = 0;
            putTwo(hall.row[ROW_NIGHT]);
            putTwo(hall.row[ROW_WAX]);
            for (int r = 0; r < hall.shelf.count[READERS]; r++) {
                put(hall.of(r, HIS_TABLE));
                putTwo(hall.of(r, HIS_READ));
                putTwo(hall.of(r, HIS_HEARD));
                put(hall.of(r, HIS_LEFT) + 1);
                putTwo(hall.of(r, HIS_INTO));
                put(hall.of(r, HIS_LISTED));
                for (int k = 0; k < hall.of(r, HIS_LISTED); k++) {
                    put(hall.listed(r, k));
                }
            }
            int check = CHECK_START;
            for (int k = 0; k < length; k++) {
                check = (5 * check + bytes[k]) % CHECK_SIZE;
            }
            put(check);
        }

        private void put(int value) {
            if (length < MOST_IMAGE) {
                bytes[length] = value;
                length++;
            }
        }

        private void putTwo(int value) {
            put(value >> 8);
            put(value & 255);
        }

        boolean read(Tape tape, Shelf shelf) {
            Arrays.fill(row, 0);
            at = 0;
            row[ROW_NIGHT] = takeTwo(tape);
            row[ROW_WAX] = takeTwo(tape);
            if (!within(row[ROW_NIGHT], MOST_NIGHT) || !within(row[ROW_WAX], MOST_WAX)) {
                return false;
            }
            for (int r = 0; r < MOST_READERS; r++) {
                int from = ROW_HEAD + r * HIS_FIELDS;
                row[from + HIS_LEFT] = NONE;
                if (r < shelf.count[READERS] && !readOne(tape, shelf, from)) {
                    return false;
                }
            }
            return at == tape.length - 1 && tape.byteAt(at) == checkOf(tape);
        }

        private boolean readOne(Tape tape, Shelf shelf, int from) {
            int pages = shelf.count[PAGES];
            int table = take(tape);
            int read = takeTwo(tape);
            int heard = takeTwo(tape);
            int left = take(tape) - 1;
            int into = takeTwo(tape);
            int listed = take(tape);
            if (!within(table, shelf.count[TABLES] - 1) || !within(listed, MOST_LISTED)) {
                return false;
            }
            if (!within(read, (1 << pages) - 1) || !within(heard, (1 << pages) - 1) || (read & heard) != 0) {
                return false;
            }
            row[from + HIS_TABLE] = table;
            row[from + HIS_READ] = read;
            row[from + HIS_HEARD] = heard;
            row[from + HIS_LEFT] = left;
            row[from + HIS_INTO] = into;
            row[from + HIS_LISTED] = listed;
            int taken = read | heard;
            boolean leftListed = false;
            for (int k = 0; k < listed; k++) {
                int page = take(tape);
                if (!within(page, pages - 1) || (taken & (1 << page)) != 0) {
                    return false;
                }
                taken |= 1 << page;
                leftListed = leftListed || page == left;
                row[from + HIS_LIST + k] = page;
            }
            return left == NONE ? into == 0 : leftListed && into > 0 && into < MOST_MINUTES;
        }

        private static boolean within(int value, int most) {
            return value >= 0 && value <= most;
        }

        private int take(Tape tape) {
            int value = tape.byteAt(at);
            at++;
            return value;
        }

        private int takeTwo(Tape tape) {
            int high = take(tape);
            int low = take(tape);
            return high == NONE || low == NONE ? NONE : high * 256 + low;
        }

        private static int checkOf(Tape tape) {
            int check = CHECK_START;
            for (int k = 0; k < tape.length - 1; k++) {
                check = (5 * check + tape.byteAt(k)) % CHECK_SIZE;
            }
            return check;
        }
    }
}
