/** Promises 24 to 30 and part III of the Terms: each sentence that names a boundary, on both its sides. */
public final class QuestionsEdgesTest {
    private static final int NONE = CandleInch.NONE;
    private static final int[] FAR = {Integer.MIN_VALUE, -2, -1, 1 << 16, Integer.MAX_VALUE};

    public static void main(String[] args) {
        questionsThereAre();
        workNoneSuch();
        nightsAsMuchOrMore();
        nightsWithoutLight();
        lightOfHisTable();
        workOfWhatHeDoesNotKnow();
        workAsHeIsNow();
        nothingLeftOff();
        scholarFewest();
        sharedUpToEight();
        sharedNoneSuch();
        sharedByTheFirstThree();
        sharedFewestNights();
        sharedLeastMinutes();
        sharedTheFirst();
        sharedWithoutLight();
        sharedWithItsNeeds();
        seatedNoneSuch();
        seatedMostPages();
        seatedMostWax();
        seatedTheFirst();
        seatedJustWithinTheLight();
        seatedNothingLeftOff();
        seatedAllTables();
        mostNoneSuch();
        mostJustWithinTheMinutes();
        mostLeastMinutesThenBits();
        mostWithItsNeeds();
        waxNoneSuch();
        waxJustSoManyMinutes();
        waxIfHeKnewNone();
        indexNoneSuch();
        indexTheFirst();
        indexOfAllReaders();
        askedInTurn();
        Check.close("QuestionsEdgesTest");
    }

    private static void dueWork(CandleInch x, int reader, int question, int work, int nights, int bits) {
        int[] due = {work, nights, bits};
        for (int what = 0; what < 3; what++) {
            Check.due("work(" + reader + ", " + question + ", " + what + ")", x.work(reader, question, what), due[what]);
        }
    }

    private static void dueShared(CandleInch x, int question, int nights, int minutes, int... readers) {
        Check.due("shared(" + question + ", NONE)", x.shared(question, NONE), nights);
        Check.due("shared(" + question + ", 20)", x.shared(question, 20), minutes);
        int at = 0;
        for (int p = 0; p < 14; p++) {
            boolean ofIt = question > 0 && (question >> p & 1) != 0 && at < readers.length;
            Check.due("shared(" + question + ", " + p + ")", x.shared(question, p), ofIt ? readers[at++] : NONE);
        }
    }

    private static void dueSeated(CandleInch x, int pages, int wax, int... tables) {
        Check.due("seated(NONE)", x.seated(NONE), pages);
        Check.due("seated(20)", x.seated(20), wax);
        for (int r = 0; r < tables.length; r++) {
            Check.due("seated(" + r + ")", x.seated(r), tables[r]);
        }
    }

    private static void dueMost(CandleInch x, int reader, int n, int count, int bits, int minutes) {
        int[] due = {count, bits, minutes};
        for (int what = 0; what < 3; what++) {
            Check.due("most(" + reader + ", " + n + ", " + what + ")", x.most(reader, n, what), due[what]);
        }
    }

    private static void dueWax(CandleInch x, int reader, int minutes, int count, int all, int some) {
        int[] due = {count, all, some};
        for (int what = 0; what < 3; what++) {
            Check.due("wax(" + reader + ", " + minutes + ", " + what + ")", x.wax(reader, minutes, what), due[what]);
        }
    }

    /** "A QUESTION is some PAGES": as bits, of the pages that there are. */
    private static void questionsThereAre() {
        for (int pages = 0; pages <= 14; pages++) {
            CandleInch x = Check.of(Check.pages(pages, 10) + Check.readers(2) + Check.tables(1));
            int full = (1 << pages) - 1;
            dueWork(x, 1, full, 10 * pages, (10 * pages + 119) / 120, full);
            dueWork(x, 1, 0, 0, 0, 0);
            Check.due("scholar", x.scholar(full), 0);
            Check.due("scholar", x.scholar(0), 0);
            Check.due("index", x.index(full, 0), NONE);
            int[] never = {full + 1, full + 2, 1 << 20, -1, Integer.MIN_VALUE, Integer.MAX_VALUE};
            for (int question : never) {
                dueWork(x, 0, question, NONE, NONE, NONE);
                Check.due("scholar(" + question + ")", x.scholar(question), NONE);
                Check.due("shared(" + question + ", NONE)", x.shared(question, NONE), NONE);
                Check.due("shared(" + question + ", 20)", x.shared(question, 20), NONE);
                Check.due("shared(" + question + ", 0)", x.shared(question, 0), NONE);
                Check.due("index(" + question + ", 0)", x.index(question, 0), NONE);
                Check.due("index(" + question + ", 1)", x.index(question, 1), NONE);
            }
        }
        // one bit more than there are pages, though the rest of it may be asked, and one of it is needed
        CandleInch y = Check.of(Check.pages(3, 10) + "needs pc pa;" + Check.readers(1) + Check.tables(1));
        Check.due("index(4, 0)", y.index(4, 0), 0);
        Check.due("index(8 + 4, 0)", y.index(12, 0), NONE);
        Check.due("shared(4, 2)", y.shared(4, 2), 0);
        Check.due("shared(8 + 4, 2)", y.shared(12, 2), NONE);
    }

    /** "NONE when there are none such, or for others." */
    private static void workNoneSuch() {
        CandleInch x = Check.of(Check.pages(3, 10) + Check.readers(2) + Check.tables(1));
        dueWork(x, 1, 7, 30, 1, 7);
        dueWork(x, 2, 7, NONE, NONE, NONE);
        Check.due("work(0, 7, 3)", x.work(0, 7, 3), NONE);
        for (int far : FAR) {
            dueWork(x, far, 7, NONE, NONE, NONE);
            Check.due("work(0, 7, far)", x.work(0, 7, far), NONE);
        }
        Check.due("nothing is refused", x.status(2), 0);
    }

    /** "NIGHTS of it: how many times his LIGHT are as much as his WORK, or more." */
    private static void nightsAsMuchOrMore() {
        int[] lights = {1, 2, 20, 99};
        for (int light : lights) {
            for (int lines = 1; lines <= 99; lines++) {
                if (lines > 3 && lines % light > 1 && (lines + 1) % light != 0) {
                    continue;
                }
                CandleInch x = Check.of(Check.pages(1, lines) + Check.readers(1) + Check.tables(1) + "burns " + light + ";");
                int nights = 0;
                while (nights * light < lines) {
                    nights++;
                }
                dueWork(x, 0, 1, lines, nights, 1);
                Check.due("shared", x.shared(1, NONE), nights);
            }
        }
    }

    /** "(none without LIGHT, if there is WORK)": "0 when he answers it; NONE when there are none". */
    private static void nightsWithoutLight() {
        CandleInch x = Check.of(Check.pages(2, 10) + Check.readers(1) + Check.tables(1) + "burns 20-20*night;");
        dueWork(x, 0, 1, 10, 1, 1);
        x.list(0, 0);
        x.night();
        Check.due("no light", x.table(0, 2), 0);
        dueWork(x, 0, 1, 0, 0, 0);
        dueWork(x, 0, 0, 0, 0, 0);
        dueWork(x, 0, 2, 10, NONE, 2);
        dueWork(x, 0, 3, 10, NONE, 2);
        Check.due("he answers it", x.scholar(1), 0);
        Check.due("there is none", x.scholar(2), NONE);
        Check.due("shared", x.shared(1, NONE), 0);
        Check.due("shared", x.shared(1, 0), 0);
        Check.due("shared", x.shared(1, 20), 0);
        dueShared(x, 2, NONE, NONE);
        dueShared(x, 3, NONE, NONE);
        dueMost(x, 0, 99, 0, 0, 0);
    }

    /** "his LIGHT (that of his TABLE)": of all who sit there. */
    private static void lightOfHisTable() {
        CandleInch x = Check.of(Check.pages(1, 60) + "reader ra pace 1 eyes 1;reader rb pace 1 eyes 2;reader rc pace 1 eyes 3;"
                + Check.tables(2) + "burns 10*eyes;");
        dueWork(x, 0, 1, 60, 1, 1);
        x.seat(2, 1);
        dueWork(x, 0, 1, 60, 2, 1);
        dueWork(x, 2, 1, 60, 2, 1);
        x.seat(1, 1);
        dueWork(x, 0, 1, 60, 6, 1);
        dueWork(x, 2, 1, 60, 2, 1);
        dueMost(x, 0, 5, 0, 0, 0);
        dueMost(x, 0, 6, 1, 1, 60);
        dueMost(x, 1, 2, 1, 1, 60);
    }

    /** "which he does not know and are of it, or needed by such a one of these, and so on". */
    private static void workOfWhatHeDoesNotKnow() {
        CandleInch x = Check.of("book b;page pa of b lines 1;page pb of b lines 2;page pc of b lines 4;page pd of b lines 8;"
                + "page pe of b lines 16;needs pb pa;needs pc pb;needs pe pa;needs pe pd;" + Check.readers(2) + Check.tables(1)
                + "burns 5;");
        dueWork(x, 0, 1, 1, 1, 1);
        dueWork(x, 0, 2, 3, 1, 3);
        dueWork(x, 0, 4, 7, 1, 7);
        dueWork(x, 0, 8, 8, 1, 8);
        dueWork(x, 0, 16, 25, 3, 25);
        // what two of them need is counted once
        dueWork(x, 0, 20, 31, 4, 31);
        dueWork(x, 0, 31, 31, 4, 31);
        x.list(0, 0);
        x.list(0, 1);
        x.night();
        dueWork(x, 0, 1, 0, 0, 0);
        dueWork(x, 0, 3, 0, 0, 0);
        dueWork(x, 0, 7, 4, 1, 4);
        dueWork(x, 0, 16, 24, 3, 24);
        // the minutes count for the nights, also those of the first page
        dueWork(x, 1, 16, 25, 3, 25);
        CandleInch y = Check.of("book b;page pa of b lines 10;page pb of b lines 10;needs pb pa;" + Check.readers(1) + Check.tables(1) + "burns 10;");
        dueWork(y, 0, 2, 20, 2, 3);
        Check.due("most", y.most(0, 1, 1), 1);
        // heard of is known, too
        x.tell(0, 1, 0);
        dueWork(x, 1, 2, 2, 1, 2);
    }

    /** "(as he is now)": what he knows now counts for each of the pages. */
    private static void workAsHeIsNow() {
        CandleInch x = Check.of(Check.pages(3, 10) + Check.readers(1) + "table ta draft 0;table tb draft 7;burns 20;takes lines+5*knows+draft+night;");
        dueWork(x, 0, 7, 30, 2, 7);
        dueMost(x, 0, 2, 3, 7, 30);
        x.list(0, 0);
        x.night();
        dueWork(x, 0, 7, 32, 2, 6);
        dueMost(x, 0, 2, 2, 6, 32);
        x.seat(0, 1);
        dueWork(x, 0, 7, 46, 3, 6);
        dueMost(x, 0, 2, 1, 2, 23);
        dueMost(x, 0, 3, 2, 6, 46);
    }

    /** "nothing left off": the minutes into a page count for nothing. */
    private static void nothingLeftOff() {
        CandleInch x = Check.of(Check.pages(2, 30) + Check.readers(1) + Check.tables(1) + "burns 20;");
        x.list(0, 0);
        x.night();
        Check.due("left off", x.reader(0, 6), 20);
        dueWork(x, 0, 1, 30, 2, 1);
        dueWork(x, 0, 3, 60, 3, 3);
        dueMost(x, 0, 1, 0, 0, 0);
        dueMost(x, 0, 2, 1, 1, 30);
        dueShared(x, 1, 2, 30, 0);
        dueWax(x, 0, 30, 2, 0, 3);
        dueWax(x, 0, 10, 0, 0, 0);
        dueSeated(x, 0, 0, 0);
        Check.due("but tonight", x.whole(0), 1);
    }

    /** "The READER with the fewest NIGHTS (of like ones the first) for a QUESTION; NONE when there is none such." */
    private static void scholarFewest() {
        CandleInch x = Check.of(Check.pages(2, 60) + Check.readers(6) + Check.tables(5) + "burns 10;");
        Check.due("like ones", x.scholar(1), 0);
        for (int r = 0; r < 4; r++) {
            x.seat(r, r + 1);
        }
        // two share the light of the first table: 3 nights, and 6 for each of the others
        Check.due("the first of the last two", x.scholar(1), 4);
        Check.due("nothing to do", x.scholar(0), 0);
        x.seat(4, 4);
        Check.due("like ones", x.scholar(1), 3);
        x.seat(5, 4);
        Check.due("three share", x.scholar(1), 3);
        x.list(5, 0);
        x.winter(2);
        Check.due("the last one answers it", x.reader(5, 3), 1);
        Check.due("no night is fewer than one", x.scholar(1), 5);
        Check.due("that one not", x.scholar(2), 3);
        CandleInch y = Check.of(Check.pages(1, 60) + Check.readers(2) + "table ta draft 0;table tb draft 1;burns 10*draft;");
        Check.due("without light", y.scholar(1), NONE);
        y.seat(1, 1);
        Check.due("he alone has light", y.scholar(1), 1);
        Check.due("without readers", Check.of(Check.pages(1, 60)).scholar(1), NONE);
        Check.due("without readers", Check.of(Check.pages(1, 60)).scholar(0), NONE);
        for (int far : FAR) {
            Check.due("scholar(far)", x.scholar(far), NONE);
        }
    }

    /** "(8 PAGES at most)": "NONE when there are more than 8, or none". */
    private static void sharedUpToEight() {
        CandleInch x = Check.of(Check.pages(14, 10) + Check.readers(1) + Check.tables(1) + "burns 10;");
        int[] ofSeven = {127, 127 << 7};
        int[] ofEight = {255, 255 << 6, 255 << 3, 0b10101010101011, 0b11010101010101};
        int[] ofNine = {511, 511 << 5, 0b10101010101111, 16383};
        for (int question : ofSeven) {
            Check.due("shared(" + question + ")", x.shared(question, NONE), 7);
        }
        for (int question : ofEight) {
            dueShared(x, question, 8, 80, 0, 0, 0, 0, 0, 0, 0, 0);
        }
        for (int question : ofNine) {
            dueShared(x, question, NONE, NONE);
        }
        dueShared(x, 0, NONE, NONE);
        dueShared(x, 1, 1, 10, 0);
        // pages that are known are pages of it, too
        x.list(0, 0);
        x.night();
        Check.due("eight and a known one", x.shared(511, NONE), NONE);
    }

    /** "the READER of PAGE k of the QUESTION (its number)": "NONE .. for others." */
    private static void sharedNoneSuch() {
        CandleInch x = Check.of(Check.pages(14, 10) + Check.readers(3) + Check.tables(1));
        Check.due("of it", x.shared(1 << 13, 13), 0);
        Check.due("of it", x.shared(1, 0), 0);
        int[] others = {0, 12, 14, 15, 19, 21, 32 + 13, 33, -2, -19, Integer.MIN_VALUE, Integer.MAX_VALUE};
        for (int k : others) {
            Check.due("shared(1 << 13, " + k + ")", x.shared(1 << 13, k), NONE);
        }
        Check.due("minutes", x.shared(1 << 13, 20), 10);
        Check.due("without readers", Check.of(Check.pages(1, 1)).shared(1, NONE), NONE);
        Check.due("without readers", Check.of(Check.pages(1, 1)).shared(1, 0), NONE);
        Check.due("without readers", Check.of(Check.pages(1, 1)).shared(1, 20), NONE);
    }

    /** "each PAGE of it is given to one of the first three READERS (of fewer: all)". */
    private static void sharedByTheFirstThree() {
        int[] nights = {NONE, 4, 2, 2, 2, 2, 2};
        int[][] given = {{}, {0, 0, 0, 0}, {0, 0, 1, 1}, {0, 0, 1, 1}, {0, 0, 1, 1}, {0, 0, 1, 1}, {0, 0, 1, 1}};
        int[] threeNights = {NONE, 3, 2, 1, 1, 1, 1};
        for (int readers = 1; readers <= 6; readers++) {
            CandleInch x = Check.of(Check.pages(4, 10) + Check.readers(readers) + Check.tables(5) + "burns 10/sitting;");
            for (int r = 1; r < Math.min(4, readers); r++) {
                x.seat(r, r);
            }
            for (int r = 4; r < readers; r++) {
                x.seat(r, 4);
            }
            dueShared(x, 15, nights[readers], 40, given[readers]);
            Check.due("three pages", x.shared(7, NONE), threeNights[readers]);
        }
        // a fourth one who knows them all is not asked
        CandleInch y = Check.of(Check.pages(1, 40) + Check.readers(4) + Check.tables(2) + "burns 20;");
        y.seat(3, 1);
        y.list(3, 0);
        y.night();
        y.night();
        dueWork(y, 3, 1, 0, 0, 0);
        dueShared(y, 1, 1, 40, 0);
    }

    /** "so that the most NIGHTS that one of these needs are fewest". */
    private static void sharedFewestNights() {
        // ra reads each in 10 minutes, rb in 30; both have 30 of light: three for ra are 1 night, four are 2
        CandleInch x = Check.of(Check.pages(4, 30) + "reader ra pace 3 eyes 0;reader rb pace 1 eyes 0;" + Check.tables(2) + "burns 30;takes lines/pace;");
        x.seat(1, 1);
        dueShared(x, 7, 1, 30, 0, 0, 0);
        // fewest nights, though it takes 20 minutes more
        dueShared(x, 15, 1, 60, 0, 0, 0, 1);
    }

    /** "of like ones the least minutes of all together". */
    private static void sharedLeastMinutes() {
        // each has light for all; rb reads small print sooner, ra big print
        CandleInch x = Check.of("book b;page pa of b lines 20;page pb of b lines 20 big;page pc of b lines 20;"
                + "reader ra pace 1 eyes 9;reader rb pace 1 eyes 0;reader rc pace 1 eyes 5;" + Check.tables(1) + "burns 100;takes lines+eyes*(1-print)+(9-eyes)*print;");
        dueShared(x, 7, 1, 60, 1, 0, 1);
        dueShared(x, 5, 1, 40, 1, 1);
        dueShared(x, 2, 1, 20, 0);
    }

    /** "of like ones the first by PAGES, by READERS". */
    private static void sharedTheFirst() {
        CandleInch x = Check.of(Check.pages(5, 10) + Check.readers(3) + Check.tables(3) + "burns 10;");
        x.seat(1, 1);
        x.seat(2, 2);
        dueShared(x, 1, 1, 10, 0);
        dueShared(x, 3, 1, 20, 0, 1);
        dueShared(x, 7, 1, 30, 0, 1, 2);
        dueShared(x, 15, 2, 40, 0, 0, 1, 1);
        dueShared(x, 31, 2, 50, 0, 0, 1, 1, 2);
        // with light for all of it the first one has all
        x.seat(1, 0);
        x.seat(2, 0);
        dueShared(x, 7, 1, 30, 0, 0, 0);
        // all ways have their most nights and minutes alike: by the first page, not by the last one
        CandleInch y = Check.of("book b;page pa of b lines 10;page pb of b lines 20;" + Check.readers(2) + Check.tables(2) + "burns 20;");
        y.seat(1, 1);
        dueShared(y, 3, 1, 30, 0, 1);
    }

    /** "who must know it": whoever has no light can't, unless he knows it. */
    private static void sharedWithoutLight() {
        CandleInch x = Check.of(Check.pages(2, 10) + Check.readers(2) + "table ta draft 0;table tb draft 1;burns 10*draft;");
        dueShared(x, 1, NONE, NONE);
        x.seat(1, 1);
        dueShared(x, 3, 2, 20, 1, 1);
        x.list(1, 0);
        x.night();
        x.seat(1, 0);
        Check.due("nobody has light", x.whole(1), 0);
        dueShared(x, 1, 0, 0, 1);
        dueShared(x, 2, NONE, NONE);
        dueShared(x, 3, NONE, NONE);
        x.seat(0, 1);
        dueShared(x, 3, 1, 10, 1, 0);
    }

    /** "his WORK" is that of all that he is given, with what it needs, counted once. */
    private static void sharedWithItsNeeds() {
        CandleInch x = Check.of(Check.pages(4, 10) + "needs pb pa;needs pc pa;" + Check.readers(2) + Check.tables(2) + "burns 20;");
        x.seat(1, 1);
        // pb and pc by one: 30 minutes, 2 nights; by two: 20 each, 1 night
        dueShared(x, 6, 1, 40, 0, 1);
        // with light enough for one: 30 minutes are fewer than 40
        x.seat(1, 0);
        dueShared(x, 6, 1, 30, 0, 0);
        dueShared(x, 7, 1, 30, 0, 0, 0);
        dueShared(x, 14, 1, 40, 0, 0, 0);
    }

    /** "how many PAGES (k NONE), the TABLE of READER k, WAX (20). NONE without READERS, or for others." */
    private static void seatedNoneSuch() {
        for (int readers = 0; readers <= 6; readers++) {
            CandleInch x = Check.of(Check.pages(1, 10) + Check.readers(readers) + Check.tables(2) + "burns 10;");
            Check.due("pages", x.seated(NONE), readers == 0 ? NONE : 0);
            Check.due("wax", x.seated(20), readers == 0 ? NONE : 10 * readers);
            for (int r = 0; r < 8; r++) {
                Check.due("reader " + r, x.seated(r), r < readers ? 0 : NONE);
            }
            int[] others = {-2, 19, 21, 32, Integer.MIN_VALUE, Integer.MAX_VALUE};
            for (int k : others) {
                Check.due("seated(" + k + ")", x.seated(k), NONE);
            }
        }
    }

    /** "so that the most PAGES are read in the NIGHT, were it then (lists as they are)". */
    private static void seatedMostPages() {
        // alone an inch burns 10 minutes, of two each burns 11: as many pages, and more wax
        CandleInch x = Check.of(Check.pages(2, 10) + Check.readers(2) + Check.tables(2) + "burns 10/(sitting*sitting*sitting)+10*(sitting/2);");
        dueSeated(x, 0, 22, 0, 0);
        x.list(0, 0);
        x.list(1, 1);
        dueSeated(x, 2, 12, 0, 0);
        // of two each burns 4: pages by sitting apart
        CandleInch y = Check.of(Check.pages(2, 10) + Check.readers(2) + Check.tables(2) + "burns 10-6*(sitting-1);");
        y.list(0, 0);
        y.list(1, 1);
        dueSeated(y, 2, 0, 0, 1);
        y.drop(1);
        dueSeated(y, 1, 10, 0, 1);
        y.drop(0);
        dueSeated(y, 0, 20, 0, 1);
        // pages ahead of wax: at the second table the light is short, and one page is read at the first one
        CandleInch z = Check.of(Check.pages(1, 30) + Check.readers(1) + "table ta draft 0;table tb draft 1;burns 29+draft;");
        z.list(0, 0);
        dueSeated(z, 1, 0, 1);
        CandleInch u = Check.of(Check.pages(1, 30) + Check.readers(1) + "table ta draft 1;table tb draft 0;burns 29+draft;");
        u.list(0, 0);
        dueSeated(u, 1, 0, 0);
    }

    /** "of like ones the most WAX". */
    private static void seatedMostWax() {
        CandleInch x = Check.of(Check.pages(1, 10) + Check.readers(1) + "table ta draft 0;table tb draft 3;table tc draft 5;table td draft 4;burns 20+draft;");
        dueSeated(x, 0, 25, 2);
        x.list(0, 0);
        dueSeated(x, 1, 15, 2);
        // it takes longer there by more than the light is more
        CandleInch y = Check.of(Check.pages(1, 10) + Check.readers(1) + "table ta draft 9;table tb draft 3;table tc draft 5;burns 20+draft;takes lines+draft*2;");
        y.list(0, 0);
        dueSeated(y, 1, 20 + 3 - 16, 1);
        // all that is saved when nobody reads
        CandleInch z = Check.of(Check.pages(1, 99) + Check.readers(2) + "table ta draft 0;table tb draft 7;burns 10+draft;");
        z.list(1, 0);
        // rb reads without an end wherever he sits: ra's light is saved if he sits elsewhere
        dueSeated(z, 0, 17, 1, 0);
    }

    /** "of like ones the first by READERS, by TABLES". */
    private static void seatedTheFirst() {
        CandleInch x = Check.of(Check.pages(1, 10) + Check.readers(3) + Check.tables(4) + "burns 20/sitting;");
        dueSeated(x, 0, 60, 0, 1, 2);
        for (int r = 0; r < 3; r++) {
            x.seat(r, 3);
        }
        dueSeated(x, 0, 60, 0, 1, 2);
        // wherever they sit now
        CandleInch y = Check.of(Check.pages(1, 10) + Check.readers(6) + Check.tables(5) + "burns 20;");
        dueSeated(y, 0, 120, 0, 0, 0, 0, 0, 0);
        for (int r = 0; r < 6; r++) {
            y.seat(r, r % 4 + 1);
        }
        dueSeated(y, 0, 120, 0, 0, 0, 0, 0, 0);
        Check.due("nobody has moved", y.reader(5, 0), 2);
        // the first reader counts most: it is ra who stays at the first table
        CandleInch z = Check.of(Check.pages(1, 10) + Check.readers(2) + Check.tables(3) + "burns 30/(sitting*sitting);");
        dueSeated(z, 0, 60, 0, 1);
    }

    /** A page that ends just with the light is read there, too. */
    private static void seatedJustWithinTheLight() {
        for (int lines = 18; lines <= 22; lines++) {
            CandleInch x = Check.of(Check.pages(2, lines) + Check.readers(2) + Check.tables(1) + "burns 10;");
            x.list(0, 0);
            x.list(1, 0);
            x.list(1, 1);
            dueSeated(x, lines <= 20 ? 2 : 0, 0, 0, 0);
            x.drop(1);
            dueSeated(x, lines <= 20 ? 1 : 0, Math.max(0, 20 - lines), 0, 0);
        }
        // without light not even what takes a minute
        CandleInch y = Check.of(Check.pages(1, 1) + Check.readers(1) + "table ta draft 0;burns draft;");
        y.list(0, 0);
        dueSeated(y, 0, 0, 0);
    }

    /** "nothing left off": whoever left one off goes by his list. */
    private static void seatedNothingLeftOff() {
        CandleInch x = Check.of("book b;page pa of b lines 5;page pb of b lines 5;page pc of b lines 30;needs pb pa;"
                + Check.readers(2) + Check.tables(1) + "burns 10;");
        x.list(0, 1);
        x.list(0, 2);
        x.list(1, 0);
        x.night();
        x.tell(1, 0, 0);
        Check.due("left off", x.reader(0, 6), 20);
        Check.due("tonight both", x.whole(0), 2);
        dueSeated(x, 1, 0, 0, 0);
    }

    /** All six at all five tables. */
    private static void seatedAllTables() {
        // one inch each burns best alone; six readers at five tables: two of them together
        CandleInch x = Check.of(Check.pages(1, 10) + Check.readers(6) + Check.tables(5) + "burns 40/sitting/sitting;");
        dueSeated(x, 0, 4 * 40 + 20, 0, 0, 1, 2, 3, 4);
        for (int r = 0; r < 6; r++) {
            x.list(r, 0);
        }
        dueSeated(x, 6, 4 * 30 + 10, 0, 0, 1, 2, 3, 4);
        // 3000 minutes are saved, 48 pages read at the last table
        CandleInch y = Check.of(Check.pages(14, 1) + Check.readers(6) + "table ta draft 0;table tb draft 0;table tc draft 0;"
                + "table td draft 0;table te draft 1;burns 500*draft;takes 1;");
        dueSeated(y, 0, 3000, 4, 4, 4, 4, 4, 4);
        for (int r = 0; r < 6; r++) {
            for (int p = 0; p < 8; p++) {
                y.list(r, p);
            }
        }
        dueSeated(y, 48, 2992, 4, 4, 4, 4, 4, 4);
    }

    /** "in n NIGHTS (0 .. 99)": "NONE when there is none such, n can't be, or for others." */
    private static void mostNoneSuch() {
        CandleInch x = Check.of(Check.pages(2, 99) + Check.readers(2) + Check.tables(1) + "burns 1;");
        dueMost(x, 1, 0, 0, 0, 0);
        dueMost(x, 1, 99, 2, 3, 198);
        dueMost(x, 1, 98, 1, 1, 99);
        dueMost(x, 1, 100, NONE, NONE, NONE);
        dueMost(x, 2, 1, NONE, NONE, NONE);
        Check.due("most(0, 1, 3)", x.most(0, 1, 3), NONE);
        for (int far : FAR) {
            dueMost(x, far, 1, NONE, NONE, NONE);
            dueMost(x, 0, far, NONE, NONE, NONE);
            Check.due("most(0, 1, far)", x.most(0, 1, far), NONE);
        }
    }

    /** "in as many minutes as n times his LIGHT". */
    private static void mostJustWithinTheMinutes() {
        for (int lines = 9; lines <= 11; lines++) {
            CandleInch x = Check.of(Check.pages(3, lines) + Check.readers(1) + Check.tables(1) + "burns 10;");
            boolean fits = lines <= 10;
            dueMost(x, 0, 0, 0, 0, 0);
            dueMost(x, 0, 1, fits ? 1 : 0, fits ? 1 : 0, fits ? lines : 0);
            dueMost(x, 0, 2, fits ? 2 : 1, fits ? 3 : 1, fits ? 2 * lines : lines);
            dueMost(x, 0, 3, fits ? 3 : 2, fits ? 7 : 3, fits ? 3 * lines : 2 * lines);
            dueMost(x, 0, 4, 3, 7, 3 * lines);
        }
        // the most there may be: 14 pages of 500 minutes
        CandleInch y = Check.of(Check.pages(14, 1) + Check.readers(1) + Check.tables(1) + "burns 500;takes 500;");
        dueMost(y, 0, 13, 13, 8191, 6500);
        dueMost(y, 0, 14, 14, 16383, 7000);
        dueMost(y, 0, 99, 14, 16383, 7000);
        // known ones are not read again
        CandleInch z = Check.of(Check.pages(3, 10) + Check.readers(1) + Check.tables(1) + "burns 10;");
        z.list(0, 1);
        z.night();
        dueMost(z, 0, 1, 1, 1, 10);
        dueMost(z, 0, 99, 2, 5, 20);
    }

    /** "of like ones the least minutes, then the least bits". */
    private static void mostLeastMinutesThenBits() {
        CandleInch x = Check.of("book b;page pa of b lines 8;page pb of b lines 7;page pc of b lines 6;page pd of b lines 7;"
                + Check.readers(1) + Check.tables(1) + "burns 14;");
        // pb and pc, or pc and pd: 13 minutes; pa and pc: 14
        dueMost(x, 0, 1, 2, 6, 13);
        dueMost(x, 0, 2, 4, 15, 28);
        // pd needs pa: 5 + 5; pc needs pb: 6 + 4: the least bits are those of pb and pc
        CandleInch y = Check.of("book b;page pa of b lines 5;page pb of b lines 6;page pc of b lines 4;page pd of b lines 5;"
                + "needs pc pb;needs pd pa;" + Check.readers(1) + Check.tables(1) + "burns 10;");
        dueMost(y, 0, 1, 2, 6, 10);
        // more pages ahead of fewer minutes
        CandleInch z = Check.of("book b;page pa of b lines 1;page pb of b lines 9;page pc of b lines 9;"
                + Check.readers(1) + Check.tables(1) + "burns 10;");
        dueMost(z, 0, 1, 2, 3, 10);
    }

    /** "(each with all it needs that he does not know)". */
    private static void mostWithItsNeeds() {
        String text = "book b;page pa of b lines 9;page pb of b lines 1;page pc of b lines 1;page pd of b lines 4;needs pb pa;needs pc pb;"
                + Check.readers(1) + Check.tables(1) + "burns ";
        dueMost(Check.of(text + "3;"), 0, 1, 0, 0, 0);
        dueMost(Check.of(text + "4;"), 0, 1, 1, 8, 4);
        dueMost(Check.of(text + "9;"), 0, 1, 1, 8, 4);
        dueMost(Check.of(text + "10;"), 0, 1, 2, 3, 10);
        dueMost(Check.of(text + "11;"), 0, 1, 3, 7, 11);
        dueMost(Check.of(text + "14;"), 0, 1, 3, 7, 11);
        dueMost(Check.of(text + "15;"), 0, 1, 4, 15, 15);
        CandleInch x = Check.of(text + "9;");
        x.list(0, 0);
        x.night();
        dueMost(x, 0, 1, 3, 14, 6);
        dueMost(x, 0, 0, 0, 0, 0);
    }

    /** "NONE when there is none such, minutes are below 0, or for others." */
    private static void waxNoneSuch() {
        CandleInch x = Check.of(Check.pages(2, 10) + Check.readers(2) + Check.tables(1));
        dueWax(x, 1, 0, 1, 0, 0);
        dueWax(x, 1, 20, 1, 3, 3);
        dueWax(x, 1, 21, 0, 0, 0);
        dueWax(x, 1, Integer.MAX_VALUE, 0, 0, 0);
        dueWax(x, 1, -1, NONE, NONE, NONE);
        dueWax(x, 1, Integer.MIN_VALUE, NONE, NONE, NONE);
        dueWax(x, 2, 10, NONE, NONE, NONE);
        Check.due("wax(0, 10, 3)", x.wax(0, 10, 3), NONE);
        for (int far : FAR) {
            dueWax(x, far, 10, NONE, NONE, NONE);
            Check.due("wax(0, 10, far)", x.wax(0, 10, far), NONE);
        }
        CandleInch y = Check.of(Check.readers(1) + Check.tables(1));
        dueWax(y, 0, 0, 1, 0, 0);
        dueWax(y, 0, 1, 0, 0, 0);
    }

    /** "which together take a READER just so many minutes": "how many, in all of them, in some". */
    private static void waxJustSoManyMinutes() {
        CandleInch x = Check.of("book b;page pa of b lines 3;page pb of b lines 5;page pc of b lines 8;page pd of b lines 8;needs pd pa;"
                + Check.readers(1) + Check.tables(1));
        dueWax(x, 0, 0, 1, 0, 0);
        dueWax(x, 0, 2, 0, 0, 0);
        dueWax(x, 0, 3, 1, 1, 1);
        dueWax(x, 0, 4, 0, 0, 0);
        dueWax(x, 0, 5, 1, 2, 2);
        // pa with pb, or pc; not pd without pa
        dueWax(x, 0, 8, 2, 0, 7);
        dueWax(x, 0, 11, 2, 1, 13);
        dueWax(x, 0, 13, 1, 6, 6);
        dueWax(x, 0, 16, 2, 3, 15);
        dueWax(x, 0, 19, 1, 13, 13);
        dueWax(x, 0, 24, 1, 15, 15);
        dueWax(x, 0, 25, 0, 0, 0);
        CandleInch y = Check.of(Check.pages(14, 1) + Check.readers(1) + Check.tables(1) + "takes 500;");
        dueWax(y, 0, 500, 14, 0, 16383);
        dueWax(y, 0, 6500, 14, 0, 16383);
        dueWax(y, 0, 7000, 1, 16383, 16383);
        dueWax(y, 0, 7001, 0, 0, 0);
    }

    /** "if he knew none (knows is 0 for each)", all else as he sits now. */
    private static void waxIfHeKnewNone() {
        CandleInch x = Check.of("book b;page pa of b lines 3;page pb of b lines 5;needs pb pa;reader ra pace 1 eyes 0;reader rb pace 1 eyes 4;"
                + "table ta draft 0;table tb draft 2;burns 30;takes lines+50*knows+eyes+draft+10*night;");
        dueWax(x, 0, 3, 1, 1, 1);
        dueWax(x, 0, 8, 1, 3, 3);
        dueWax(x, 1, 7, 1, 1, 1);
        dueWax(x, 1, 16, 1, 3, 3);
        x.list(0, 0);
        x.night();
        Check.due("knows", x.takes(0, 1), 65);
        dueWax(x, 0, 13, 1, 1, 1);
        dueWax(x, 0, 28, 1, 3, 3);
        x.seat(0, 1);
        dueWax(x, 0, 15, 1, 1, 1);
        dueWax(x, 0, 32, 1, 3, 3);
        dueWax(x, 0, 28, 0, 0, 0);
    }

    /** "NONE when there is none by which it is less, there is no such QUESTION, or for others." */
    private static void indexNoneSuch() {
        CandleInch x = Check.of(Check.pages(4, 10) + "needs pc pa;needs pd pc;" + Check.readers(1) + Check.tables(1));
        Check.due("index(4, 0)", x.index(4, 0), 0);
        Check.due("index(4, 1)", x.index(4, 1), 10);
        int[] none = {0, 1, 2, 3, 5, 7, 13, 15, 16, 20};
        for (int question : none) {
            Check.due("index(" + question + ", 0)", x.index(question, 0), NONE);
            Check.due("index(" + question + ", 1)", x.index(question, 1), NONE);
        }
        for (int far : FAR) {
            Check.due("index(far, 0)", x.index(far, 0), NONE);
            Check.due("index(far, 1)", x.index(far, 1), NONE);
            Check.due("index(4, far)", x.index(4, far), NONE);
        }
        Check.due("index(4, 2)", x.index(4, 2), NONE);
        // known by all of the readers there is nothing that is less
        x.list(0, 0);
        x.night();
        Check.due("index(4, 0)", x.index(4, 0), NONE);
        Check.due("index(4, 1)", x.index(4, 1), NONE);
        Check.due("index(8, 0)", x.index(8, 0), 2);
        Check.due("index(8, 1)", x.index(8, 1), 10);
        CandleInch y = Check.of(Check.pages(2, 10) + "needs pb pa;");
        Check.due("without readers", y.index(2, 0), NONE);
        Check.due("without readers", y.index(2, 1), NONE);
    }

    /** "the PAGE (not of it) by which, indexed alone, the least WORK .. is left; of like ones the first; by how many minutes less." */
    private static void indexTheFirst() {
        // pd needs pc, that needs pb, that needs pa: indexed pc leaves neither pb nor pa needed
        CandleInch x = Check.of(Check.pages(4, 10) + "needs pb pa;needs pc pb;needs pd pc;" + Check.readers(1) + Check.tables(1));
        Check.due("index(8, 0)", x.index(8, 0), 2);
        Check.due("index(8, 1)", x.index(8, 1), 30);
        Check.due("index(4, 0)", x.index(4, 0), 1);
        Check.due("index(4, 1)", x.index(4, 1), 20);
        // pc is of it: pb leaves pa needed no more
        Check.due("index(12, 0)", x.index(12, 0), 1);
        Check.due("index(12, 1)", x.index(12, 1), 20);
        // pb is of it, too, and so pa alone is needed
        Check.due("index(14, 0)", x.index(14, 0), 0);
        Check.due("index(14, 1)", x.index(14, 1), 10);
        Check.due("index(10, 0)", x.index(10, 0), 0);
        // like ones: the first; one minute more is more
        CandleInch y = Check.of(Check.pages(3, 10) + "needs pc pa;needs pc pb;" + Check.readers(1) + Check.tables(1));
        Check.due("like ones", y.index(4, 0), 0);
        Check.due("like ones", y.index(4, 1), 10);
        CandleInch z = Check.of("book b;page pa of b lines 10;page pb of b lines 11;page pc of b lines 11;page pd of b lines 1;needs pd pa;needs pd pb;needs pd pc;"
                + Check.readers(1) + Check.tables(1));
        Check.due("one more", z.index(8, 0), 1);
        Check.due("one more", z.index(8, 1), 11);
        // needed by two of it, it is needed by neither any more
        CandleInch u = Check.of(Check.pages(4, 10) + "needs pc pa;needs pd pa;needs pd pb;" + Check.readers(1) + Check.tables(1));
        Check.due("by both", u.index(12, 0), 0);
        Check.due("by both", u.index(12, 1), 10);
    }

    /** "the least WORK of all READERS together". */
    private static void indexOfAllReaders() {
        // ra knows pa: for the two others pa is 10 each, and pb 9 for all three
        CandleInch x = Check.of("book b;page pa of b lines 10;page pb of b lines 9;page pc of b lines 1;needs pc pa;needs pc pb;"
                + Check.readers(3) + Check.tables(2) + "burns 10;");
        Check.due("index(4, 0)", x.index(4, 0), 0);
        Check.due("index(4, 1)", x.index(4, 1), 30);
        x.seat(0, 1);
        x.list(0, 0);
        x.night();
        Check.due("index(4, 0)", x.index(4, 0), 1);
        Check.due("index(4, 1)", x.index(4, 1), 27);
        CandleInch y = Check.of(Check.pages(2, 50) + "needs pb pa;" + Check.readers(6) + Check.tables(1) + "takes 500;");
        Check.due("six readers", y.index(2, 1), 3000);
    }

    /** What was asked just ahead is not told for another reader, question, number of nights or minutes. */
    private static void askedInTurn() {
        CandleInch x = Check.of(Check.pages(3, 10) + "reader ra pace 1 eyes 0;reader rb pace 1 eyes 5;table ta draft 0;table tb draft 5;burns 20+draft;takes lines+eyes;");
        x.seat(1, 1);
        for (int again = 0; again < 2; again++) {
            dueMost(x, 1, 1, 1, 1, 15);
            dueMost(x, 0, 1, 2, 3, 20);
            dueMost(x, 0, 0, 0, 0, 0);
            dueMost(x, 1, 0, 0, 0, 0);
            dueMost(x, 1, 2, 3, 7, 45);
            dueMost(x, 0, 2, 3, 7, 30);
            dueWax(x, 1, 30, 3, 0, 7);
            dueWax(x, 0, 30, 1, 7, 7);
            dueWax(x, 0, 20, 3, 0, 7);
            dueWax(x, 1, 20, 0, 0, 0);
            dueWax(x, 1, 0, 1, 0, 0);
            dueWax(x, 0, 0, 1, 0, 0);
            dueShared(x, 1, 1, 10, 0);
            dueShared(x, 7, 1, 35, 0, 0, 1);
            dueShared(x, 4, 1, 10, 0);
        }
        Check.due("seated", x.seated(20), 50);
        x.seat(0, 1);
        Check.due("seated", x.seated(20), 50);
        x.list(0, 0);
        Check.due("seated", x.seated(NONE), 1);
        x.undo();
        Check.due("seated", x.seated(NONE), 0);
        dueMost(x, 0, 1, 3, 7, 30);
        x.undo();
        dueMost(x, 0, 1, 2, 3, 20);
    }
}
