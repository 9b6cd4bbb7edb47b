/** Promises 1 to 7 and part I of the Terms: each sentence that names a boundary, on both its sides. */
public final class TextEdgesTest {
    private static final int NONE = CandleInch.NONE;
    private static final String[] OWN = {"book", "page", "of", "lines", "big", "needs", "reader", "pace", "eyes", "table",
        "draft", "inch", "burns", "takes", "tells", "print", "knows", "sitting", "night", "or", "and", "not", "all",
        "min", "max"};
    /** One of each statement; all that may be told is told, and no number is what it is without. */
    private static final String RICH = "book bb;book bc;page pa of bc lines 30 big;page pb of bb lines 7;page pc of bb lines 9 big;"
            + "needs pb pa;needs pc pb;reader ra pace 3 eyes 4;reader rb pace 2 eyes 9;table ta draft 2;table tb draft 6;"
            + "inch 33;burns inch+lines-draft;takes lines+10*print+eyes;tells knows<2 and lines<9;";
    /** The same names, and none of the rest. */
    private static final String PLAIN = "book bb;page pa of bb lines 30;page pb of bb lines 7;page pc of bb lines 9;"
            + "reader ra pace 1 eyes 0;table ta draft 0;";

    public static void main(String[] args) {
        newObject();
        feedUpTo1600();
        feedRefusedLeavesTheTape();
        feedPutsTwentyBytes();
        endWithinTheTape();
        endLeavesItsFirstBytesAlone();
        tapeGoes();
        libraryIsAsAtFirst();
        libraryRefusedLeavesAll();
        libraryBehindLibrary();
        longestRules();
        readersWithoutTable();
        faultOfTheLatest();
        hasEach();
        letterEdges();
        eachKindUpToItsMost();
        eightyStatements();
        inchTheLastOneCounts();
        numbersThatMayBe();
        numbersOfFourDigits();
        namesOfSixLetters();
        namesUnlikeOfAllSorts();
        namesOfWhatIsAsked();
        neededPages();
        ownWordsAreNoNames();
        nearlyOwnWordsAreNames();
        bigOnce();
        blanks();
        otherBytes();
        sideBySide();
        endsTooSoon();
        wordsThatLack();
        firstAlongTheText();
        openAtOnce();
        oneEachOfTheRules();
        Check.close("TextEdgesTest");
    }

    /** "No BOOKS, READERS, TABLES; the seed is 1." */
    private static void newObject() {
        CandleInch x = new CandleInch();
        Check.due("BOOKS", x.has(0), 0);
        Check.due("READERS", x.has(3), 0);
        Check.due("TABLES", x.has(4), 0);
        Check.due("the seed", x.has(11), 1);
        Check.due("inch without one", x.has(5), 60);
        Check.due("letter of a book", x.letter(0, 0, 0), NONE);
        Check.due("letter of a reader", x.letter(2, 0, 0), NONE);
        Check.due("letter of a table", x.letter(3, 0, 0), NONE);
        Check.due("fault", x.fault(0), 0);
        Check.due("place", x.fault(1), NONE);
        Check.due("kept", x.kept(0, 0), NONE);
        Check.due("work", x.work(0, 0, 0), NONE);
        Check.due("most", x.most(0, 1, 0), NONE);
        Check.due("wax", x.wax(0, 0, 0), NONE);
        Check.due("index", x.index(0, 0), NONE);
        Check.due("scholar", x.scholar(0), NONE);
        Check.due("shared", x.shared(1, NONE), NONE);
        Check.due("seated", x.seated(NONE), NONE);
        Check.due("tonight", x.tonight(0, 0), NONE);
        Check.due("takes", x.takes(0, 0), NONE);
        Check.due("burns", x.burns(0), NONE);
        for (int what = 0; what < 4; what++) {
            Check.due("whole", x.whole(what), 0);
        }
        Check.due("the tape is empty", x.end(1), false);
        // the seed is 1, not only told so: the only draw of one table from it on
        CandleInch y = new CandleInch();
        Check.tell(y, "table t draft 0;");
        y.winter(1);
        Check.due("the seed behind a draw", y.has(11), (1103515245L + 12345) % (1L << 31));
    }

    /** "NONE, refused (0), if there would be more than 1600." */
    private static void feedUpTo1600() {
        for (int left = 0; left <= 20; left++) {
            CandleInch x = new CandleInch();
            for (int k = 0; k < 80; k++) {
                x.feed(0, 0, 0, 0, 0);
            }
            Check.due("end", x.end(1600 - left), true);
            boolean fits = left == 20;
            Check.due("feed() behind " + (1600 - left), x.feed(0, 0, 0, 0, 0), fits ? 1600 : NONE);
            Check.due("status(0)", x.status(0), fits ? 0 : 1);
            Check.due("end() one too far", x.end((fits ? 1600 : 1600 - left) + 1), false);
            Check.due("end() at the end", x.end(fits ? 1600 : 1600 - left), true);
        }
    }

    /** A refused feed() puts no byte on the tape. */
    private static void feedRefusedLeavesTheTape() {
        CandleInch x = new CandleInch();
        Check.feedBytes(x, Check.bytesOf("inch 99;" + " ".repeat(1573)));
        Check.due("refused", x.feed(0x78787878, 0x78787878, 0x78787878, 0x78787878, 0x78787878), NONE);
        Check.due("status(0)", x.status(0), 1);
        Check.due("library", x.library(), 1);
        Check.due("inch", x.has(5), 99);
        // the tape's last bytes are read, too
        CandleInch y = new CandleInch();
        Check.due("library of 1600", Check.tell(y, " ".repeat(1592) + "inch 98;"), 1);
        Check.due("inch", y.has(5), 98);
        Check.due("library of 1600", Check.tell(y, " ".repeat(1599) + ";"), NONE);
        Check.due("place", y.fault(1), 1599);
        Check.due("library of 1600", Check.tell(y, " ".repeat(1593) + "inch 97"), NONE);
        Check.due("place", y.fault(1), 1600);
    }

    /** "Twenty bytes come behind those on the tape, of each number the highest first: how many there are." */
    private static void feedPutsTwentyBytes() {
        CandleInch x = new CandleInch();
        // "book abcdef;inch 10;" and " inch 11;           "
        Check.due("feed", x.feed(0x626f6f6b, 0x20616263, 0x6465663b, 0x696e6368, 0x2031303b), 20);
        Check.due("feed", x.feed(0x20696e63, 0x68203131, 0x3b202020, 0x20202020, 0x20202020), 40);
        Check.due("library", x.library(), 3);
        for (int k = 0; k < 6; k++) {
            Check.due("letter", x.letter(0, 0, k), 1 + k);
        }
        Check.due("inch", x.has(5), 11);
        // each byte of each number, also the highest one with its highest bit, is a byte of its own
        for (int at = 0; at < 20; at++) {
            int[] five = {0x20202020, 0x20202020, 0x20202020, 0x20202020, 0x20202020};
            five[at / 4] ^= 0xa0 << (24 - at % 4 * 8);
            CandleInch y = new CandleInch();
            y.feed(five[0], five[1], five[2], five[3], five[4]);
            y.library();
            Check.due("fault", y.fault(0), 1);
            Check.due("place of byte " + at, y.fault(1), at);
        }
    }

    /** "false, refused (0), if it has not so many, or n is below 0." */
    private static void endWithinTheTape() {
        CandleInch x = new CandleInch();
        Check.due("end(0) of none", x.end(0), true);
        Check.due("end(1) of none", x.end(1), false);
        Check.due("status(0)", x.status(0), 1);
        x.feed(0x696e6368, 0x2039393b, 0x20202020, 0x20202020, 0x20202020);
        int[] never = {-1, 21, Integer.MIN_VALUE, Integer.MAX_VALUE};
        for (int n : never) {
            Check.due("end(" + n + ")", x.end(n), false);
        }
        Check.due("status(0)", x.status(0), 5);
        Check.due("end(20)", x.end(20), true);
        Check.due("end(8)", x.end(8), true);
        Check.due("end(9)", x.end(9), false);
        Check.due("status(0)", x.status(0), 6);
        Check.due("the tape stayed", x.library(), 1);
        Check.due("the tape stayed", x.has(5), 99);
    }

    /** "The tape has its first n bytes alone": none behind them is looked at. */
    private static void endLeavesItsFirstBytesAlone() {
        dueCut("inch 100;", 6, 4, 5);
        dueCut("inch 100;", 7, 1, 7);
        dueCut("inch 99999;", 9, 4, 5);
        dueCut("book book;", 8, 1, 8);
        dueCut("book abcdefg;", 11, 1, 11);
        dueCut("book abcdef;book abcdef;", 22, 1, 22);
        dueCut("burns 1;burns 1;", 8, 0, NONE);
        dueCut("inch 10;inch 9;", 12, 1, 12);
        CandleInch x = new CandleInch();
        Check.feedBytes(x, Check.bytesOf("inch 77;inch 88;    "));
        Check.due("end(8)", x.end(8), true);
        Check.due("feed", x.feed(0x20202020, 0x20202020, 0x20202020, 0x20202020, 0x20202020), 28);
        Check.due("library", x.library(), 1);
        Check.due("inch", x.has(5), 77);
    }

    private static void dueCut(String text, int n, int fault, int place) {
        CandleInch x = new CandleInch();
        Check.feedBytes(x, Check.bytesOf(text));
        x.end(n);
        x.library();
        Check.due("fault(0) of '" + text + "' cut at " + n, x.fault(0), fault);
        Check.due("fault(1) of '" + text + "' cut at " + n, x.fault(1), place);
    }

    /** "The tape (it goes, refused or not)." */
    private static void tapeGoes() {
        String[] texts = {"", "inch 20;", "inch 9;", "inch 20", "book"};
        for (String text : texts) {
            CandleInch x = new CandleInch();
            Check.tell(x, text);
            Check.due("behind '" + text + "'", x.end(1), false);
            Check.due("behind '" + text + "'", x.feed(0, 0, 0, 0, 0), 20);
        }
        CandleInch y = new CandleInch();
        Check.due("an empty tape is a library", y.library(), 0);
        Check.due("fault", y.fault(0), 0);
        Check.due("place", y.fault(1), NONE);
    }

    /** An object with something of all that may be there. */
    private static CandleInch lived() {
        CandleInch x = Check.of(RICH);
        x.list(0, 0);
        x.list(1, 0);
        x.list(1, 1);
        x.seat(1, 1);
        x.night();
        x.winter(2);
        x.list(0, 1);
        x.seed(4711);
        x.status(0);
        x.end(-1);
        x.seat(9, 9);
        x.winter(0);
        x.seed(-1);
        return x;
    }

    /** "Without one all is as at first; the seed, the counts of refusals and the latest IMAGE stay." */
    private static void libraryIsAsAtFirst() {
        String[] texts = {"", "inch 44;", PLAIN, RICH};
        for (String text : texts) {
            CandleInch x = lived();
            Check.due("lived", x.has(6) == 3 && x.has(7) > 0 && x.has(8) > 0 && x.has(9) > 0 && x.has(10) > 0, true);
            x.image();
            int[] image = {x.octet(0), x.octet(1), x.octet(2), x.octet(3), x.octet(4)};
            Check.due("the image has a night", image[1], 3);
            int[] counts = Check.countsOf(x);
            Check.due("library", Check.tell(x, text) != NONE, true);
            for (int k = 0; k < 5; k++) {
                Check.due("the latest image stays", x.octet(k), image[k]);
            }
            for (int k = 0; k < 6; k++) {
                Check.due("the counts of refusals stay", x.status(k), counts[k]);
            }
            Check.due("the seed stays", x.has(11), 4711);
            Check.due("no act can be undone", x.undo(), false);
            x.seed(1);
            CandleInch y = new CandleInch();
            Check.tell(y, text);
            x.image();
            y.image();
            Check.same("as at first with '" + text + "'", Check.stateOf(x), Check.stateOf(y));
        }
    }

    /** "NONE, refused (1), with a FAULT (all stays)." */
    private static void libraryRefusedLeavesAll() {
        String[] texts = {"x", "inch 9;", RICH + "book", PLAIN + PLAIN, "burns (((((((((1;", "reader r pace 1 eyes 1;",
            "inch 10;".repeat(81), "needs a b;"};
        for (String text : texts) {
            Check.refused("library() of '" + text + "'", TextEdgesTest::lived, x -> Check.tell(x, text), NONE, 1);
        }
        // the names, the rules and what may be undone stay, too
        CandleInch x = lived();
        Check.tell(x, "book zz;burns 500;takes 500;tells not all;inch 9");
        Check.due("letter", x.letter(0, 0, 0), 2);
        Check.due("takes", x.takes(0, 0), 30 + 10 + 4);
        Check.due("burns", x.burns(0), 33 - 2);
        Check.due("undo", x.undo(), true);
        Check.due("undo", x.undo(), true);
        Check.due("night", x.has(6), 1);
    }

    /** Nothing of a library ahead, taken or refused, is left in the next one. */
    private static void libraryBehindLibrary() {
        String seven = "burns (((((((1)))))));tells not not not not not not not all;";
        String[] texts = {RICH, PLAIN, RICH + "x", "", seven, "burns (((((((1", seven, "tells not not not [[[[", seven, PLAIN,
            "burns 5;takes 6;tells not all;x", PLAIN, RICH, "book bb;page pa of bb lines 1 big;needs", PLAIN, "inch 80;", ""};
        // an object is good for 512 calls, so some of them one behind the other, beginning with each
        for (int from = 0; from < texts.length; from++) {
            CandleInch x = new CandleInch();
            for (int k = from; k < Math.min(from + 4, texts.length); k++) {
                dueAsOnANewObject(x, texts[k]);
            }
        }
        // without a rule of their own the page takes its lines, the inch burns, and all may be told
        CandleInch z = new CandleInch();
        Check.tell(z, RICH);
        Check.tell(z, "");
        Check.tell(z, PLAIN.replace("table", "reader rb pace 1 eyes 0;table"));
        Check.due("takes", z.takes(0, 0), 30);
        Check.due("burns", z.burns(0), 60);
        z.list(0, 0);
        z.night();
        Check.due("tell", z.tell(0, 1, 0), true);
        Check.due("letter behind a shorter name", shorterName(), 0);
    }

    private static void dueAsOnANewObject(CandleInch x, String text) {
        CandleInch y = new CandleInch();
        int told = Check.tell(x, text);
        Check.due("library() of '" + text + "'", told, Check.tell(y, text));
        Check.due("fault(0) of '" + text + "'", x.fault(0), y.fault(0));
        Check.due("fault(1) of '" + text + "'", x.fault(1), y.fault(1));
        if (told != NONE) {
            Check.same("behind others '" + text + "'", Check.stateOf(x), Check.stateOf(y));
        }
    }

    private static int shorterName() {
        CandleInch x = new CandleInch();
        Check.tell(x, "book abcdef;");
        Check.tell(x, "book ghijkl;");
        Check.tell(x, "book m;");
        Check.due("letter", x.letter(0, 0, 0), 13);
        return x.letter(0, 0, 1);
    }

    /** A rule as long as the tape lets it be, and others behind it. */
    private static void longestRules() {
        CandleInch x = new CandleInch();
        int[] last = {7, 8, 9, 6};
        for (int n : last) {
            String ahead = "book b;page p of b lines 1;reader r pace 1 eyes 0;table t draft 0;takes ";
            String sum = "1-1+".repeat((1600 - ahead.length() - 2) / 4);
            Check.due("library", Check.tell(x, ahead + sum + n + ";"), 5);
            Check.due("takes", x.takes(0, 0), n);
        }
        CandleInch y = new CandleInch();
        Check.due("library", Check.tell(y, "burns " + "1*".repeat(390) + "5;tells " + "1<1 or ".repeat(110) + "all;"), 2);
        Check.due("library", Check.tell(y, Check.readers(1) + Check.tables(1) + "burns " + "min(".repeat(7) + "9" + ",9)".repeat(7) + ";"), 3);
        Check.due("burns", y.burns(0), 9);
    }

    /** "also with READERS and no TABLE (FAULT 1 at its length)." */
    private static void readersWithoutTable() {
        String reader = "reader r pace 1 eyes 0;";
        Check.fault(reader, 1, 23);
        Check.fault(reader + "   ", 1, 26);
        Check.fault(reader + "inch 20;", 1, 31);
        Check.fault(Check.readers(6), 1, 144);
        Check.fine(reader + "table t draft 0;", 2);
        Check.fine("table t draft 0;" + reader, 2);
        Check.fine("table t draft 0;", 1);
        Check.fine(Check.tables(5), 5);
        // a fault ahead of it is the first along the text
        Check.fault(reader + "inch 9;", 4, 28);
    }

    /** "Of the latest library(): its FAULT (what 0; 0 without, and ahead of any), its place (1; NONE without)." */
    private static void faultOfTheLatest() {
        CandleInch x = new CandleInch();
        int[] others = {-1, 2, Integer.MIN_VALUE, Integer.MAX_VALUE};
        String[] texts = {"x", "book a;book a;", "book a;page p of p lines 1;", "inch 9;", "burns ((((((((1", "burns 1;burns 1;"};
        int[] faults = {1, 2, 3, 4, 5, 6};
        int[] places = {0, 12, 17, 5, 13, 8};
        Check.due("ahead of any", x.fault(0), 0);
        Check.due("ahead of any", x.fault(1), NONE);
        for (int k = 0; k < texts.length; k++) {
            Check.tell(x, texts[k]);
            Check.due("fault(0)", x.fault(0), faults[k]);
            Check.due("fault(1)", x.fault(1), places[k]);
            for (int what : others) {
                Check.due("fault(" + what + ")", x.fault(what), NONE);
            }
            x.feed(0, 0, 0, 0, 0);
            x.on();
            Check.due("it is the latest still", x.fault(0), faults[k]);
            Check.tell(x, k % 2 == 0 ? "" : "inch 10;");
            Check.due("without", x.fault(0), 0);
            Check.due("without", x.fault(1), NONE);
            for (int what : others) {
                Check.due("fault(" + what + ") without", x.fault(what), NONE);
            }
        }
    }

    /** "How many there are: 0 BOOKS .. 11 the seed. NONE for others." */
    private static void hasEach() {
        StringBuilder text = new StringBuilder("book b;book ba;book bc;book bd;book be;");
        text.append(Check.pages(14, 40).substring(7)).append("needs pb pa;needs pc pa;needs pd pa;").append(Check.readers(2));
        CandleInch x = Check.of(text + Check.tables(4) + "inch 41;");
        x.list(0, 0);
        x.list(0, 1);
        x.list(1, 4);
        x.seat(1, 3);
        x.winter(2);
        x.list(1, 0);
        x.seat(1, 0);
        x.tell(0, 1, 0);
        x.seed(5);
        // of 41 minutes of light ra reads 40 and 1, then the other 39 of his second page; rb reads 40, then none
        int saved = 0 + 1 + 2 + 41;
        int[] due = {5, 14, 3, 2, 4, 41, 2, saved, 3, 4, 8, 5};
        for (int what = 0; what < due.length; what++) {
            Check.due("has(" + what + ")", x.has(what), due[what]);
        }
        int[] others = {-1, 12, 20, Integer.MIN_VALUE, Integer.MAX_VALUE};
        for (int what : others) {
            Check.due("has(" + what + ")", x.has(what), NONE);
        }
    }

    /** "Letter k (0 .. 5) of the NAME .. (kind 0 .. 3): 1 .. 26; 0 behind it; NONE when there is none such." */
    private static void letterEdges() {
        CandleInch x = Check.of("book az;book b;page abcdef of b lines 1;reader zyxwvu pace 1 eyes 0;table m draft 0;");
        int[][] names = {{1, 26, 0, 0, 0, 0}, {1, 2, 3, 4, 5, 6}, {26, 25, 24, 23, 22, 21}, {13, 0, 0, 0, 0, 0}};
        int[] count = {2, 1, 1, 1};
        int[] never = {-1, 6, 7, Integer.MIN_VALUE, Integer.MAX_VALUE};
        for (int kind = 0; kind < 4; kind++) {
            for (int k = 0; k < 6; k++) {
                Check.due("letter(" + kind + ", 0, " + k + ")", x.letter(kind, 0, k), names[kind][k]);
            }
            for (int k : never) {
                Check.due("letter(" + kind + ", 0, " + k + ")", x.letter(kind, 0, k), NONE);
            }
            int[] which = {-1, count[kind], count[kind] + 1, 14, Integer.MIN_VALUE, Integer.MAX_VALUE};
            for (int w : which) {
                Check.due("letter(" + kind + ", " + w + ", 0)", x.letter(kind, w, 0), NONE);
            }
        }
        int[] kinds = {-1, 4, 5, Integer.MIN_VALUE, Integer.MAX_VALUE};
        for (int kind : kinds) {
            Check.due("letter(" + kind + ", 0, 0)", x.letter(kind, 0, 0), NONE);
        }
        Check.due("the second book", x.letter(0, 1, 0), 2);
    }

    /** "5 BOOKS", "14 PAGES", "20 NEEDS", "6 READERS", "5 TABLES": "6 one too many of a kind of STATEMENT, at its first byte." */
    private static void eachKindUpToItsMost() {
        String books = "book a;book b;book c;book d;book e;";
        dueMost(books, 5, "book f;", 0);
        dueMost(Check.pages(14, 1), 15, "page px of b lines 1;", 1);
        StringBuilder needs = new StringBuilder(Check.pages(14, 1));
        for (int k = 0; k < 20; k++) {
            needs.append("needs p").append((char) ('n' - k / 10)).append(" p").append((char) ('a' + k % 10)).append(';');
        }
        dueMost(needs.toString(), 35, "needs pb pa;", 2);
        dueMost(Check.tables(1) + Check.readers(6), 7, "reader rx pace 1 eyes 0;", 3);
        dueMost(Check.tables(5), 5, "table tx draft 0;", 4);
        // it is told ahead of what else is wrong with it, also of what can't be taken at all
        Check.fault(books + "book a;", 6, 35);
        Check.fault(books + "book;", 6, 35);
        Check.fault(books + "book abcdefgh;", 6, 35);
        Check.fault(books + "\n book 1", 6, 37);
        // another kind may still be told
        Check.fine(books + "table t draft 0;", 6);
    }

    private static void dueMost(String text, int statements, String more, int has) {
        CandleInch x = new CandleInch();
        Check.due("library", Check.tell(x, text), statements);
        int most = x.has(has);
        Check.due("the most there may be", most, new int[] {5, 14, 20, 6, 5}[has]);
        Check.fault(text + more, 6, text.length());
        Check.due("one too many is refused", Check.tell(x, text + more), NONE);
        Check.due("as many as there were", x.has(has), most);
    }

    /** "{ STATEMENT ; } (80 at most)": "the 81st STATEMENT (whatever it is), at its first byte." */
    private static void eightyStatements() {
        String ten = "inch 10;".repeat(10);
        Check.fine(ten.repeat(7) + "inch 10;".repeat(9), 79);
        Check.fine(ten.repeat(8), 80);
        String[] more = {"inch 10;", "book a;", "burns 1;", "needs a b;", "reader r pace 1 eyes 1;", "inch 9;", "book book;"};
        for (String one : more) {
            Check.fault(ten.repeat(8) + one, 6, 640);
            Check.fault(ten.repeat(8) + "\n " + one, 6, 642);
        }
        Check.fine(ten.repeat(7) + "inch 10;".repeat(9) + "book a;", 80);
        Check.fine("table t draft 0;" + ten.repeat(7) + "inch 10;".repeat(7) + "reader r pace 1 eyes 1;burns 1;", 80);
        Check.fine(ten.repeat(8) + "\n  ", 80);
        // a fault within the 80th stands ahead of it
        Check.fault(ten.repeat(7) + "inch 10;".repeat(9) + "inch 9;book", 4, 637);
    }

    /** "inch N (10 .. 120; the last one counts; 60 without)." */
    private static void inchTheLastOneCounts() {
        Check.due("without", Check.of("book a;").has(5), 60);
        Check.due("one", Check.of("inch 59;").has(5), 59);
        Check.due("the last", Check.of("inch 120;inch 11;inch 10;").has(5), 10);
        Check.due("the last", Check.of("inch 10;book a;inch 11;inch 120;").has(5), 120);
        CandleInch x = Check.of("inch 120;");
        Check.tell(x, "book a;");
        Check.due("without again", x.has(5), 60);
    }

    /** "1 .. 99", "1 .. 9, 0 .. 9", "0 .. 9", "10 .. 120": "4 a NUMBER that can't be, at its first byte." */
    private static void numbersThatMayBe() {
        dueNumbers("book b;page p of b lines ", ";", 1, 99);
        dueNumbers("book b;page p of b lines ", " big;", 1, 99);
        dueNumbers("table t draft 0;reader r pace ", " eyes 0;", 1, 9);
        dueNumbers("table t draft 0;reader r pace 1 eyes ", ";", 0, 9);
        dueNumbers("table t draft ", ";", 0, 9);
        dueNumbers("inch ", ";", 10, 120);
        // in a sum each number of four digits may be
        Check.fine("burns 0;takes 9999;tells 0<9999;", 3);
    }

    private static void dueNumbers(String ahead, String behind, int least, int most) {
        for (int n = 0; n <= most + 2; n++) {
            if (n < least || n > most) {
                Check.fault(ahead + n + behind, 4, ahead.length());
            } else {
                Check.due(ahead + n + behind, Check.tell(new CandleInch(), ahead + n + behind) != NONE, true);
            }
        }
        int[] never = {100, 127, 255, 256, 257, 999, 1000, 9999};
        for (int n : never) {
            if (n > most) {
                Check.fault(ahead + n + behind, 4, ahead.length());
            }
        }
        // it is told ahead of what is wrong behind it
        Check.fault(ahead + (most + 1), 4, ahead.length());
        Check.fault(ahead + (most + 1) + " x", 4, ahead.length());
    }

    /** "NUMBERS: 1 to 4 digits": "a 5th digit at itself, whatever may stand there." */
    private static void numbersOfFourDigits() {
        CandleInch x = Check.of("book b;page p of b lines 0099;page q of b lines 01;reader r pace 009 eyes 0000;table t draft 0009;"
                + "inch 0120;takes 0007+0009;");
        Check.due("0099", x.page(0, 1), 99);
        Check.due("01", x.page(1, 1), 1);
        Check.due("009", x.reader(0, 1), 9);
        Check.due("0000", x.reader(0, 2), 0);
        Check.due("0009", x.table(0, 0), 9);
        Check.due("0120", x.has(5), 120);
        Check.due("0007+0009", x.takes(0, 0), 16);
        String[] five = {"00000", "00010", "12345", "99999", "123456789012345678901234567890"};
        for (String number : five) {
            String[] ahead = {"inch ", "book b;page p of b lines ", "reader r pace ", "reader r pace 1 eyes ", "table t draft ",
                "burns ", "burns 1+", "takes min(", "tells ", "tells 1<", "", "book ", "book b ", "page p ", "needs ", "inch 10 ",
                "reader r ", "burns (1 ", "burns 1 ", "tells not "};
            for (String text : ahead) {
                Check.fault(text + number + ";", 1, text.length() + 4);
            }
        }
        // four digits are a number, though none may stand there
        Check.fault("1234", 1, 0);
        Check.fault("book 1234;", 1, 5);
        Check.fault("burns 1 1234;", 1, 8);
    }

    /** "NAMES: 1 to 6 letters": "a 7th letter of what is no OWN WORD at itself, whatever may stand there." */
    private static void namesOfSixLetters() {
        Check.fine("book a;book abcdef;book abcdeg;book ab;", 4);
        Check.fault("book ;", 1, 5);
        Check.fault("book;", 1, 4);
        String[] seven = {"abcdefg", "abcdefgh", "bookbook", "sittinx", "sittings", "readers", "readerr", "zzzzzzzzzzzzzzzzzzzzzzzzzz"};
        String[] ahead = {"", "book ", "book a;page ", "book a;page p ", "book a;page p of ", "book a;page p of a ",
            "book a;page p of a lines ", "book a;page p of a lines 1 ", "needs ", "book a;page p of a lines 1;needs p ", "reader ",
            "reader r ", "reader r pace ", "table ", "table t ", "inch ", "inch 10 ", "burns ", "burns 1 ", "burns 1+", "takes (",
            "takes min ", "tells ", "tells not ", "tells all ", "tells 1 ", "book a ", "book a;"};
        for (String word : seven) {
            for (String text : ahead) {
                Check.fault(text + word + ";", 1, text.length() + 6);
            }
        }
        // six letters that are no own word are told at their first byte where one must be, and so is the own word of seven
        Check.fault("readrr r pace 1 eyes 1;", 1, 0);
        Check.fault("book a;page p off a lines 1;", 1, 14);
        Check.fault("sitting;", 1, 0);
        Check.fault("book a;page p of a sitting 1;", 1, 19);
        Check.fine("burns sitting;", 1);
    }

    /** "unlike ones (of all sorts)": "2 a NAME to be given that is there already, at its first byte." */
    private static void namesUnlikeOfAllSorts() {
        String[] sorts = {"book x;", "page x of b lines 1;", "reader x pace 1 eyes 0;", "table x draft 0;"};
        int[] at = {5, 5, 7, 6};
        for (String first : sorts) {
            String ahead = "book b;table t draft 0;" + first;
            for (int second = 0; second < sorts.length; second++) {
                Check.fault(ahead + sorts[second], 2, ahead.length() + at[second]);
                Check.fine(ahead + sorts[second].replace("x", "y"), 4);
                Check.fine(ahead + sorts[second].replace("x", "xx"), 4);
            }
        }
        Check.fault("book abcdef;book abcdef;", 2, 17);
        Check.fine("book abcdef;book abcdeg;book abcde;book bcdef;", 4);
        // also behind others of its sort
        Check.fault("book a;book c;book d;book a;", 2, 26);
        Check.fault("book a;book c;book d;book d;", 2, 26);
    }

    /** "told ahead of where they are asked": "3 a NAME that is none of what is asked, at its first byte." */
    private static void namesOfWhatIsAsked() {
        String all = "book b;book c;page p of b lines 1;page q of c lines 1;table t draft 0;reader r pace 1 eyes 0;";
        int n = all.length();
        String[] noBooks = {"p", "q", "t", "r", "x", "z", "bb"};
        for (String name : noBooks) {
            Check.fault(all + "page x of " + name + " lines 1;book z;", 3, n + 10);
        }
        Check.fine(all + "page x of b lines 1;", 7);
        Check.fine(all + "page x of c lines 1;", 7);
        String[] noPages = {"b", "c", "t", "r", "x", "pp", "z"};
        for (String name : noPages) {
            Check.fault(all + "needs " + name + " p;page z of b lines 1;", 3, n + 6);
            Check.fault(all + "needs q " + name + ";page z of b lines 1;", 3, n + 8);
        }
        Check.fine(all + "needs q p;", 7);
        Check.fault("page p of b lines 1;book b;", 3, 10);
        Check.fault("book b;needs q p;page p of b lines 1;page q of b lines 1;", 3, 13);
        Check.fault("book b;page p of b lines 1;needs q p;page q of b lines 1;", 3, 33);
        Check.fault("book b;page p of b lines 1;needs p q;page q of b lines 1;", 3, 35);
        // the first one is told ahead of the second one
        Check.fault(all + "needs x x;", 3, n + 6);
        // it is told ahead of what is wrong behind it
        Check.fault(all + "page x of z lines 0;", 3, n + 10);
        Check.fault(all + "needs z", 3, n + 6);
    }

    /** "a needed PAGE that can't be (the same one, one told behind the first one, one told already), at its first byte." */
    private static void neededPages() {
        String three = "book b;page pa of b lines 1;page pb of b lines 1;page pc of b lines 1;";
        int n = three.length();
        Check.fault(three + "needs pa pa;", 3, n + 9);
        Check.fault(three + "needs pc pc;", 3, n + 9);
        Check.fault(three + "needs pa pb;", 3, n + 9);
        Check.fault(three + "needs pb pc;", 3, n + 9);
        Check.fault(three + "needs pa pc;", 3, n + 9);
        Check.fine(three + "needs pb pa;", 5);
        Check.fine(three + "needs pc pa;", 5);
        Check.fine(three + "needs pc pb;", 5);
        Check.fault(three + "needs pc pb;needs pc pb;", 3, n + 12 + 9);
        Check.fault(three + "needs pc pa;needs pc pb;needs pc pa;", 3, n + 24 + 9);
        Check.fine(three + "needs pc pa;needs pb pa;needs pc pb;", 7);
        CandleInch x = Check.of(three + "needs pc pa;needs pc pb;");
        Check.due("needs", x.has(2), 2);
        Check.due("pc needs", x.page(2, 3), 3);
        // the first page and the last one of fourteen
        CandleInch y = Check.of(Check.pages(14, 1) + "needs pn pa;needs pn pm;");
        Check.due("pn needs", y.page(13, 3), 1 + (1 << 12));
    }

    /** "OWN WORDS, which no NAME is": "an OWN WORD where a NAME must be", fault 1 at its first byte. */
    private static void ownWordsAreNoNames() {
        String p = "book b;page p of b lines 1;page q of b lines 1;";
        String[] ahead = {"book ", "page ", "book b;page p of ", "reader ", "table ", p + "needs ", p + "needs q "};
        for (String word : OWN) {
            for (String text : ahead) {
                Check.fault(text + word + ";", 1, text.length());
            }
        }
    }

    /** Words that are nearly own words are names as others are. */
    private static void nearlyOwnWordsAreNames() {
        for (String word : OWN) {
            String shorter = word.substring(0, word.length() - 1);
            String longer = word + "x";
            if (shorter.length() <= 6) {
                Check.fine("book " + shorter + ";", 1);
            }
            if (longer.length() <= 6) {
                Check.fine("book " + longer + ";", 1);
            }
        }
    }

    /** "big behind it if it is in big print": "big told again at its first byte." */
    private static void bigOnce() {
        String page = "book b;page p of b lines 1";
        Check.due("not big", Check.of(page + ";").page(0, 2), 0);
        Check.due("big", Check.of(page + " big;").page(0, 2), 1);
        Check.fault(page + " big big;", 1, 31);
        Check.fault(page + " big big big;", 1, 31);
        Check.fault(page + " big 1;", 1, 31);
        Check.fault(page + " big x;", 1, 31);
        Check.fault("book b;page p of b big;", 1, 19);
        Check.fault("book b;page p of b;", 1, 18);
        Check.fault("book b;page p of b big lines 1;", 1, 19);
        Check.fault("book b;page p big of b lines 1;", 1, 14);
        Check.fault("book big;", 1, 5);
        Check.fault("inch 10 big;", 1, 8);
        Check.fault("big;", 1, 0);
        // of one page alone
        CandleInch x = Check.of(page + " big;page q of b lines 1;");
        Check.due("the next page", x.page(1, 2), 0);
    }

    /** "Blanks (10, 32) are where one likes." */
    private static void blanks() {
        String text = "book b ; page p of b lines 9 big ; page q of b lines 8 ; needs q p ; reader r pace 1 eyes 2 ; "
                + "table t draft 3 ; inch 44 ; burns ( inch + 1 ) * min ( 2 , 3 ) % 90 ; takes max ( 5 , lines ) / 2 - 1 ; "
                + "tells not [ all or 1 < 2 ] and 3 > 2 or 4 = 4 ; ";
        String[] ways = {text, text.replace(" ", "\n"), text.replace(" ", " \n "), " \n" + text + "\n \n",
            text.replaceAll(" ?([;()\\[\\],<>=+*/%-]) ?", "$1")};
        for (String way : ways) {
            Check.fine(way, 10);
            CandleInch x = Check.of(way);
            Check.due("big", x.page(0, 2), 1);
            Check.due("burns", x.burns(0), 0);
            Check.due("takes", x.takes(0, 0), 3);
        }
        Check.fine("\n", 0);
        Check.fine(" ", 0);
    }

    /** No other byte is a blank, a letter or a digit. */
    private static void otherBytes() {
        for (int b = 0; b < 256; b++) {
            boolean blank = b == 10 || b == 32;
            boolean letter = b >= 'a' && b <= 'z';
            boolean digit = b >= '0' && b <= '9';
            String one = String.valueOf((char) b);
            if (blank) {
                Check.fine("inch" + one + "10;", 1);
                Check.fine(one + "inch 10;" + one, 1);
            } else {
                Check.fault("inch 10;" + one, 1, 8);
                Check.fault("inch" + one + " 10;", 1, letter ? 0 : 4);
            }
            if (letter) {
                CandleInch x = Check.of("book " + one + ";");
                Check.due("letter", x.letter(0, 0, 0), b - 'a' + 1);
            } else if (!blank) {
                Check.fault("book " + one + ";", 1, 5);
                Check.fault("book a" + one + "b;", 1, 6 + (b == ';' ? 1 : 0));
            }
            if (!digit && !blank) {
                Check.fault("inch " + one + ";", 1, 5);
                Check.fault("inch 1" + one + "0;", 4, 5);
                Check.fault("inch 10" + one + ";", 1, b == ';' ? 8 : 7);
            }
        }
    }

    /** "words and numbers side by side need one." */
    private static void sideBySide() {
        Check.fault("book a;page p of a lines9;", 1, 24);
        Check.fault("book a;page p of a lines 9big;", 1, 26);
        Check.fault("reader r pace1 eyes 1;", 1, 13);
        Check.fault("reader r pace 1eyes 1;", 1, 15);
        Check.fault("reader r pace 1 eyes1;", 1, 20);
        Check.fault("table t draft1;", 1, 13);
        Check.fault("inch10;", 1, 4);
        Check.fault("inch0;", 1, 4);
        Check.fault("burns1;", 1, 5);
        Check.fault("burns 1lines;", 1, 7);
        Check.fault("tells 1<2and all;", 1, 9);
        Check.fault("tells 1=1or all;", 1, 9);
        Check.fault("tells not1=1;", 1, 9);
        Check.fault("book a1;", 1, 6);
        Check.fault("book abcdef1;", 1, 11);
        // words without one are one word, and so are numbers
        Check.fault("booka;", 1, 0);
        Check.fault("book a;pagep of a lines 1;", 1, 7);
        Check.fault("reader r pace 1 eyes 1 0;", 1, 23);
        Check.fault("reader r pace 11 eyes 1;", 4, 14);
        Check.fault("tells notall;", 1, 6);
        // signs need none
        Check.fine("burns(1)+(lines);takes 1+lines*2-print;tells[1<lines]and[lines>1]or not[all];", 3);
    }

    /** "at the text's length, if it ends too soon": behind each word, number and sign, with blanks and without. */
    private static void endsTooSoon() {
        String[] statements = {"book b ;", "page p of b lines 9 big ;", "page q of b lines 8 ;", "needs q p ;",
            "reader r pace 1 eyes 2 ;", "table t draft 3 ;", "inch 44 ;", "burns ( inch + 1 ) * min ( 2 , 3 ) % 90 ;",
            "takes max ( 5 , lines ) / 2 - 1 ;", "tells not [ all or 1 < 2 ] and 3 > 2 or 4 = 4 ;"};
        StringBuilder ahead = new StringBuilder("table u draft 0;");
        for (String statement : statements) {
            String[] words = statement.split(" ");
            StringBuilder text = new StringBuilder(ahead);
            for (int k = 0; k + 1 < words.length; k++) {
                text.append(words[k]);
                Check.fault(text.toString(), 1, text.length());
                Check.fault(text + " \n ", 1, text.length() + 3);
                text.append(' ');
            }
            ahead.append(statement);
            Check.due("whole", Check.tell(new CandleInch(), ahead.toString()) != NONE, true);
        }
    }

    /** Without one of its words a statement is none, and where it lacks the next one can't stand. */
    private static void wordsThatLack() {
        String ahead = "book b;page x of b lines 1;page y of b lines 1;table u draft 0;";
        String[] texts = {"book ;", "c ;", "page of b lines 9;", "page p b lines 9;", "page p of lines 9;", "page p of b 9;", "page p of b lines;",
            "page p of b lines big;", "page p of b;", "page p of b big;", "page p;", "page;", "p of b lines 9;", "needs x;", "needs;", "y x;",
            "reader pace 1 eyes 2;", "reader r 1 eyes 2;", "reader r pace eyes 2;", "reader r pace 1 2;", "reader r pace 1 eyes;",
            "reader r pace 1;", "reader r;", "reader;", "r pace 1 eyes 2;", "table draft 3;", "table t 3;", "table t draft;", "table t;", "table;",
            "t draft 3;", "inch;", "44;", "burns;", "takes;", "tells;", "burns (1;", "burns 1);", "burns ();", "burns (1+);", "burns 1 2;",
            "burns +1;", "burns 1+;", "takes min;", "takes min();", "takes min(1);", "takes min(1,);", "takes min(,1);", "takes min(1 2);",
            "takes min 1,2;", "takes (1,2);", "takes min(1,2;", "tells not;", "tells [all;", "tells all];", "tells [];", "tells 1;", "tells 1<;",
            "tells <1;", "tells all and;", "tells all or;", "tells and all;", "tells or all;", "tells all all;", "tells [not];"};
        int[] places = {5, 0, 5, 7, 10, 12, 17, 18, 11, 12, 6, 4, 0, 7, 5, 0,
            7, 9, 14, 16, 20, 15, 8, 6, 0, 6, 8, 13, 7, 5,
            0, 4, 0, 5, 5, 5, 8, 7, 7, 9, 8,
            6, 8, 9, 10, 11, 12, 10, 12,
            10, 8, 13, 9, 10, 9, 7, 7, 8,
            6, 13, 12, 6, 6, 10, 10};
        Check.due("as many places", places.length, texts.length);
        for (int k = 0; k < texts.length; k++) {
            Check.fault(ahead + texts[k], 1, ahead.length() + places[k]);
            Check.fault(ahead + texts[k] + "inch 20;", 1, ahead.length() + places[k]);
        }
    }

    /** "FAULTS, the first along the text." */
    private static void firstAlongTheText() {
        Check.fault("book a;book a;inch 9;", 2, 12);
        Check.fault("inch 9;book a;book a;", 4, 5);
        Check.fault("page p of b lines 0;", 3, 10);
        Check.fault("book b;page b of c lines 0;", 2, 12);
        Check.fault("book b;page p of b lines 0 big big;", 4, 25);
        Check.fault("book b;page p of b lines 100;burns ((((((((", 4, 25);
        Check.fault("burns ((((((((1;inch 9;", 5, 13);
        Check.fault("burns 1;burns 1;inch 9;", 6, 8);
        Check.fault("reader r pace 0 eyes 10;", 4, 14);
        Check.fault("reader r pace 1 eyes 10;reader r", 4, 21);
        Check.fault("table a draft 1;reader a pace 0 eyes 0;", 2, 23);
        Check.fault("x y z", 1, 0);
        Check.fault("inch 10 inch 9;", 1, 8);
        Check.fault("book b;page p of b lines 1;needs p p;needs", 3, 35);
    }

    /** "5 the 8th ( [ not that is open at once (not until its FACT ends), at it." */
    private static void openAtOnce() {
        for (int n = 1; n <= 8; n++) {
            dueOpen("burns ", "(", 1, "1", ")", n);
            dueOpen("takes ", "min(", 1, "1", ",3)", n);
            dueOpen("takes 1*", "max(1,", 1, "2", ")", n);
            dueOpen("tells ", "[", 1, "all", "]", n);
            dueOpen("tells ", "not ", 1, "all", "", n);
            dueOpen("tells all or ", "not[", 2, "all", "]", n);
            dueOpen("tells all and ", "[not ", 2, "1<2", "]", n);
            dueOpen("tells 1<", "(", 1, "lines", ")", n);
        }
        // one that is closed is open no more
        Check.fine("burns " + "(1)+".repeat(30) + "1;", 1);
        Check.fine("burns ((((((1)+(1))*(1)))))-((((((1))))));", 1);
        Check.fine("tells " + "[all]and ".repeat(30) + "all;", 1);
        Check.fine("takes " + "min(1,2)+".repeat(30) + "1;", 1);
        // not is open until its fact ends, and no longer
        Check.fine("tells " + "not all or ".repeat(30) + "all;", 1);
        Check.fine("tells not not not not not not not 1<2 and (1)<(2) or [all];", 1);
        Check.fault("tells not not not not not not not (1)<2;", 5, 34);
        Check.fault("tells not not not not not not not 1<(2);", 5, 36);
        Check.fine("tells not not not not not not (1)<(2);", 1);
        Check.fault("tells not not not not not not ((1))<2;", 5, 31);
        Check.fault("tells not not not not not not 1<((2));", 5, 33);
        Check.fine("tells [not not not not not not all and not not not not not not all];", 1);
        Check.fault("tells [not not not not not not all and not not not not not not not all];", 5, 63);
        // those of one statement are not open in the next one
        Check.fine("burns (((((((1)))))));takes (((((((1)))))));tells [[[[[[[all]]]]]]];", 3);
        // where none may stand it is fault 1, also as the 8th
        Check.fault("burns (((((((1(", 1, 14);
        Check.fault("burns ((((((([", 1, 13);
        Check.fault("burns (((((((not", 1, 13);
        Check.fault("tells all (", 1, 10);
    }

    /** Each of n rounds opens so many. */
    private static void dueOpen(String ahead, String open, int opens, String within, String close, int n) {
        String text = ahead + open.repeat(n) + within + close.repeat(n) + ";";
        if (n * opens <= 7) {
            Check.fine(text, 1);
            return;
        }
        int at = ahead.length() - 1;
        for (int seen = 0; seen < 8; ) {
            at++;
            if (text.charAt(at) == '(' || text.charAt(at) == '[' || text.startsWith("not", at)) {
                seen++;
            }
        }
        Check.fault(text, 5, at);
    }

    /** "burns SUM, takes SUM, tells TEST (one each)": "(a second burns, takes, tells, too)." */
    private static void oneEachOfTheRules() {
        String[] rules = {"burns 1;", "takes 1;", "tells all;"};
        for (String first : rules) {
            for (String second : rules) {
                if (first.equals(second)) {
                    Check.fault(first + second, 6, first.length());
                    Check.fault(first + "inch 10; " + second, 6, first.length() + 9);
                    Check.fault(first + second.substring(0, 5), 6, first.length());
                } else {
                    Check.fine(first + second, 2);
                }
            }
        }
        Check.fine("burns 1;takes 1;tells all;inch 10;inch 20;", 5);
    }
}
