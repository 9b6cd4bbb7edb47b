/** Promises 8 to 14, sums, tests and nights of the Terms: each sentence that names a boundary, on both its sides. */
public final class ReadingEdgesTest {
    private static final int NONE = CandleInch.NONE;
    private static final int[] FAR = {Integer.MIN_VALUE, -1000, -2, 100, 1 << 16, Integer.MAX_VALUE};

    public static void main(String[] args) {
        noneSuch();
        pageEach();
        readerEach();
        tableEach();
        resultsAreBounded();
        greatestWholeNumberNotAbove();
        byZeroBothGiveZero();
        allFromTheLeftOn();
        whatAWordIs();
        inBurnsLinesAndPrintAreNone();
        testSigns();
        takesFrom1To500();
        burnsFrom0To500();
        withoutRules();
        lightIsThatOfAllThere();
        pageWithinTheLight();
        nextWithinTheLight();
        goesOnWithWhatWasLeftOff();
        readAtOnce();
        leftOffIsFirst();
        mayReadWhatItNeeds();
        listInItsOrder();
        loses();
        losesNothingWithoutReading();
        littleLight();
        asHeIsWhenHeBegins();
        wax();
        readersWhoReadNothing();
        tonightChangesNothing();
        Check.close("ReadingEdgesTest");
    }

    private static void dueNight(CandleInch x, int reader, int pages, int bits, int stop, int left, int into) {
        int[] due = {pages, bits, stop, left, into};
        for (int what = 0; what < 5; what++) {
            Check.due("tonight(" + reader + ", " + what + ")", x.tonight(reader, what), due[what]);
        }
    }

    private static void dueWhole(CandleInch x, int pages, int light, int wax, int idle) {
        int[] due = {pages, light, wax, idle};
        for (int what = 0; what < 4; what++) {
            Check.due("whole(" + what + ")", x.whole(what), due[what]);
        }
    }

    /** "NONE when there is none such, or for others." */
    private static void noneSuch() {
        CandleInch x = Check.of(Check.pages(3, 20) + Check.readers(2) + Check.tables(4));
        for (int k = 0; k < 3; k++) {
            int what = k;
            Check.due("page 2 is there", x.page(2, what) != NONE, true);
            Check.due("reader 1 is there", x.reader(1, what) != NONE, true);
            Check.due("table 3 is there", x.table(3, what) != NONE, true);
            Check.due("page 3", x.page(3, what), NONE);
            Check.due("page -1", x.page(-1, what), NONE);
            Check.due("reader 2", x.reader(2, what), NONE);
            Check.due("reader -1", x.reader(-1, what), NONE);
            Check.due("table 4", x.table(4, what), NONE);
            Check.due("table -1", x.table(-1, what), NONE);
            Check.due("tonight 2", x.tonight(2, what), NONE);
            Check.due("tonight -1", x.tonight(-1, what), NONE);
        }
        Check.due("takes(1, 2)", x.takes(1, 2), 20);
        Check.due("takes(2, 2)", x.takes(2, 2), NONE);
        Check.due("takes(1, 3)", x.takes(1, 3), NONE);
        Check.due("takes(-1, 0)", x.takes(-1, 0), NONE);
        Check.due("takes(0, -1)", x.takes(0, -1), NONE);
        Check.due("burns(1)", x.burns(1), 60);
        Check.due("burns(2)", x.burns(2), NONE);
        Check.due("burns(-1)", x.burns(-1), NONE);
        Check.due("page(0, 6)", x.page(0, 6), NONE);
        Check.due("page(0, -1)", x.page(0, -1), NONE);
        Check.due("table(0, 3)", x.table(0, 3), NONE);
        Check.due("table(0, -1)", x.table(0, -1), NONE);
        Check.due("tonight(0, 5)", x.tonight(0, 5), NONE);
        Check.due("tonight(0, -1)", x.tonight(0, -1), NONE);
        Check.due("whole(4)", x.whole(4), NONE);
        Check.due("whole(-1)", x.whole(-1), NONE);
        for (int far : FAR) {
            int[] got = {x.page(far, 0), x.page(0, far), x.reader(far, 0), x.reader(0, far), x.table(far, 0), x.table(0, far),
                x.takes(far, 0), x.takes(0, far), x.burns(far), x.tonight(far, 0), x.tonight(0, far), x.whole(far)};
            for (int k = 0; k < got.length; k++) {
                Check.due("call " + k + " of " + far, got[k], NONE);
            }
        }
        Check.due("status", x.status(2), 0);
    }

    /** "0 its BOOK, 1 lines, 2 whether big, 3 what it needs, 4 all that it needs, and so on, 5 by how many READERS known." */
    private static void pageEach() {
        String text = "book b;book c;book d;book e;book f;" + Check.pages(13, 5).substring(7)
                + "page pn of f lines 99 big;needs pn pm;needs pm pl;needs pl pa;needs pd pc;";
        CandleInch x = Check.of(text + Check.readers(6) + Check.tables(1));
        int[] due = {4, 99, 1, 1 << 12, 1 << 12 | 1 << 11 | 1, 0};
        for (int what = 0; what < 6; what++) {
            Check.due("page(13, " + what + ")", x.page(13, what), due[what]);
        }
        Check.due("page(0, 3)", x.page(0, 3), 0);
        Check.due("page(0, 4)", x.page(0, 4), 0);
        Check.due("page(12, 4)", x.page(12, 4), 1 << 11 | 1);
        Check.due("page(11, 4)", x.page(11, 4), 1);
        Check.due("page(3, 4)", x.page(3, 4), 1 << 2);
        // known by having read it and by having heard of it
        for (int r = 0; r < 5; r++) {
            x.list(r, 0);
        }
        Check.due("by none", x.page(0, 5), 0);
        x.night();
        Check.due("by five", x.page(0, 5), 5);
        x.tell(0, 5, 0);
        Check.due("by all", x.page(0, 5), 6);
        Check.due("another one by none", x.page(1, 5), 0);
    }

    /** "10 and k: the k-th of these": 8 and 9 are others. */
    private static void readerEach() {
        CandleInch x = Check.of(Check.pages(14, 50) + "reader ra pace 1 eyes 9;reader rb pace 9 eyes 0;" + Check.tables(5) + "inch 45;");
        for (int k = 0; k < 8; k++) {
            Check.due("none on the list", x.reader(1, 10 + k), NONE);
            x.list(1, 13 - k);
            Check.due("listed", x.reader(1, 7), k + 1);
            Check.due("listed", x.reader(1, 10 + k), 13 - k);
            Check.due("listed", x.reader(1, 11 + k), NONE);
        }
        x.seat(1, 4);
        x.night();
        int[] due = {4, 9, 0, 0, 0, 13, 45, 8, NONE, NONE, 13, 12, 11, 10, 9, 8, 7, 6, NONE, NONE};
        for (int what = 0; what < due.length; what++) {
            Check.due("reader(1, " + what + ")", x.reader(1, what), due[what]);
        }
        x.night();
        due = new int[] {4, 9, 0, 1 << 13, 0, 12, 40, 7, NONE, NONE, 12, 11, 10, 9, 8, 7, 6, NONE};
        for (int what = 0; what < due.length; what++) {
            Check.due("reader(1, " + what + ")", x.reader(1, what), due[what]);
        }
        int[] other = {0, 1, 9, 0, 0, NONE, 0, 0, NONE, NONE, NONE};
        for (int what = 0; what < other.length; what++) {
            Check.due("reader(0, " + what + ")", x.reader(0, what), other[what]);
        }
    }

    /** "Each READER sits at a TABLE (the first one at first)": "1 how many sit there, 2 LIGHT there." */
    private static void tableEach() {
        CandleInch x = Check.of(Check.readers(6) + "table ta draft 0;table tb draft 9;inch 100;");
        int[] due = {0, 6, 600};
        int[] empty = {9, 0, 0};
        for (int what = 0; what < 3; what++) {
            Check.due("table(0, " + what + ")", x.table(0, what), due[what]);
            Check.due("table(1, " + what + ")", x.table(1, what), empty[what]);
        }
        for (int r = 0; r < 6; r++) {
            Check.due("the first one at first", x.reader(r, 0), 0);
            x.seat(r, 1);
            Check.due("sit at the first", x.table(0, 1), 5 - r);
            Check.due("sit at the second", x.table(1, 1), r + 1);
            Check.due("light of the first", x.table(0, 2), 500 - 100 * r);
            Check.due("light of the second", x.table(1, 2), 100 + 100 * r);
        }
    }

    private static void dueSum(String sum, int want) {
        CandleInch x = Check.of("book b;page p of b lines 7 big;page q of b lines 11;reader r pace 2 eyes 3;reader s pace 9 eyes 0;"
                + "table t draft 4;table u draft 9;inch 50;takes 250+(" + sum + ");");
        Check.due(sum, x.takes(0, 0) - 250, want);
    }

    /** "each result above 10 to the 6 is that, below -10 to the 6 likewise." */
    private static void resultsAreBounded() {
        // what is left of 10 to the 6 and of its neighbours, by 9999, is 100, 99 and 101
        dueSum("1000*1000%9999", 100);
        dueSum("(1000*1000-1)%9999", 99);
        dueSum("(1000*1000+1)%9999", 100);
        dueSum("9999*9999%9999", 100);
        dueSum("(999*1001+1+1)%9999", 100);
        dueSum("(0-1000)*1000%9999-9800", 99);
        dueSum("((0-1000)*1000+1)%9999-9800", 100);
        dueSum("((0-1000)*1000-1)%9999-9800", 99);
        dueSum("(0-9999)*9999%9999-9800", 99);
        dueSum("(0-9999)*(0-9999)%9999", 100);
        dueSum("(1000*1000-(0-1000*1000))%9999", 100);
        dueSum("1000*1000/(0-1)%9999-9800", 99);
        // each result, not the last one alone
        dueSum("9999*9999-1000*1000", 0);
        dueSum("1000*1000+1000*1000-1000*1000", 0);
        dueSum("0-1000*1000-1000*1000+1000*1000", 0);
        dueSum("9999*9999/9999", 100);
        dueSum("9999*9999*0", 0);
    }

    /** "/ gives the greatest whole number not above, % what is left (a less b times that)." */
    private static void greatestWholeNumberNotAbove() {
        for (int a = -7; a <= 7; a++) {
            for (int b = -3; b <= 3; b++) {
                int whole = b == 0 ? 0 : (int) Math.floor(1.0 * a / b);
                String of = "(0-" + (9 - a) + "+9)";
                String by = "(0-" + (9 - b) + "+9)";
                dueSum(of + "/" + by, whole);
                dueSum(of + "%" + by, b == 0 ? 0 : a - b * whole);
            }
        }
    }

    /** "by 0 both give 0." */
    private static void byZeroBothGiveZero() {
        dueSum("9999/0", 0);
        dueSum("9999%0", 0);
        dueSum("0/0", 0);
        dueSum("0%0", 0);
        dueSum("9/(3-3)+5", 5);
        dueSum("9%(3-3)+5", 5);
        dueSum("9/knows", 0);
        dueSum("9%night", 0);
    }

    /** "All from the left on": a SUM of PRODUCTS of PARTS. */
    private static void allFromTheLeftOn() {
        dueSum("20-5-3", 12);
        dueSum("20-5+3", 18);
        dueSum("20-(5-3)", 18);
        dueSum("80/4/2", 10);
        dueSum("80/4*2", 40);
        dueSum("80/(4*2)", 10);
        dueSum("7*5%3", 2);
        dueSum("7%5*3", 6);
        dueSum("29%10%4", 1);
        dueSum("29/10%4", 2);
        dueSum("1+2*3-4/2", 5);
        dueSum("(1+2)*(3-4)/2", -2);
        dueSum("min(1+2,2*2)", 3);
        dueSum("max(1+2,2*2)*2", 8);
        dueSum("min(5,5)", 5);
        dueSum("0", 0);
        dueSum("0000", 0);
        dueSum("((((((7))))))", 7);
    }

    /** "the PAGE's lines, 1 in big print, else 0; his pace, eyes; the TABLE's draft, how many READERS sit there; .." */
    private static void whatAWordIs() {
        String text = "book b;page p of b lines 99 big;page q of b lines 1;reader r pace 9 eyes 0;reader s pace 1 eyes 9;"
                + "table t draft 0;table u draft 9;inch 120;takes 200+";
        int[][] p0 = {{99, 1, 9, 0, 0, 0, 2, 120, 0}, {99, 1, 1, 9, 0, 9, 1, 120, 0}};
        int[][] p1 = {{1, 0, 9, 0, 0, 0, 2, 120, 0}, {1, 0, 1, 9, 0, 9, 1, 120, 0}};
        String[] words = {"lines", "print", "pace", "eyes", "knows", "draft", "sitting", "inch", "night"};
        for (int k = 0; k < words.length; k++) {
            CandleInch x = Check.of(text + words[k] + ";");
            Check.due(words[k], x.takes(0, 0), 200 + p0[0][k]);
            Check.due(words[k], x.takes(0, 1), 200 + p1[0][k]);
            x.seat(1, 1);
            Check.due(words[k], x.takes(1, 0), 200 + p0[1][k]);
            Check.due(words[k], x.takes(1, 1), 200 + p1[1][k]);
        }
        // how many pages he knows, by having read them and by having heard of them; others know their own
        CandleInch x = Check.of(text.replace("takes 200+", "") + "burns 100+knows;");
        x.list(0, 0);
        x.list(1, 1);
        x.night();
        Check.due("knows one", x.burns(0), 101);
        Check.due("knows one", x.burns(1), 101);
        x.tell(0, 1, 0);
        Check.due("knows one", x.burns(0), 101);
        Check.due("knows two", x.burns(1), 102);
        // the night as it is counted ahead of it: in the first one it is 0
        CandleInch y = Check.of("book b;page p of b lines 9;" + Check.readers(1) + Check.tables(1) + "burns 100+night;takes 10+night*9;");
        y.list(0, 0);
        dueNight(y, 0, 1, 1, 10, NONE, 0);
        Check.due("light", y.whole(1), 100);
        y.night();
        Check.due("wax of the first night", y.has(7), 90);
        Check.due("takes", y.takes(0, 0), 19);
        Check.due("burns", y.burns(0), 101);
    }

    /** "In burns lines and print are 0", whatever page was asked for ahead of it. */
    private static void inBurnsLinesAndPrintAreNone() {
        CandleInch x = Check.of("book b;page p of b lines 99 big;" + Check.readers(2) + Check.tables(2)
                + "burns 20+lines+300*print;takes lines+print;tells lines=99 and print=1;");
        Check.due("takes", x.takes(0, 0), 100);
        Check.due("burns", x.burns(0), 20);
        Check.due("takes", x.takes(0, 0), 100);
        Check.due("light", x.table(0, 2), 40);
        x.list(0, 0);
        Check.due("tonight", x.tonight(0, 4), 40);
        dueWhole(x, 0, 40, 0, 2);
        Check.due("seated", x.seated(20), 20);
        x.seat(0, 1);
        Check.due("work", x.work(0, 1, 1), 5);
        Check.due("shared", x.shared(1, NONE), 5);
        Check.due("most", x.most(0, 5, 0), 1);
        Check.due("most", x.most(0, 4, 0), 0);
    }

    private static void dueTest(String test, boolean want) {
        CandleInch x = Check.of("book b;page p of b lines 7 big;page q of b lines 1;reader r pace 2 eyes 3;reader s pace 5 eyes 0;"
                + "table t draft 4;inch 50;tells " + test + ";");
        x.list(0, 0);
        x.list(1, 1);
        x.night();
        Check.due(test, x.tell(0, 1, 0), want);
    }

    /** "SIGN < or > or =", "{ or BOTH }", "{ and FACT }", "not FACT", "[ TEST ]", "all". */
    private static void testSigns() {
        for (int a = 4; a <= 6; a++) {
            dueTest(a + "<pace", a < 5);
            dueTest(a + ">pace", a > 5);
            dueTest(a + "=pace", a == 5);
            dueTest("not " + a + "=pace", a != 5);
            dueTest("not " + a + "<pace", a >= 5);
            dueTest("not " + a + ">pace", a <= 5);
        }
        for (int a = 0; a < 8; a++) {
            boolean p = (a & 1) != 0;
            boolean q = (a & 2) != 0;
            boolean r = (a & 4) != 0;
            String tp = p ? "all" : "not all";
            String tq = q ? "1=1" : "1=2";
            String tr = r ? "2>1" : "1>2";
            dueTest(tp + " or " + tq + " and " + tr, p || q && r);
            dueTest(tp + " and " + tq + " or " + tr, p && q || r);
            dueTest("[" + tp + " or " + tq + "]and " + tr, (p || q) && r);
            dueTest(tp + " and[" + tq + " or " + tr + "]", p && (q || r));
            dueTest("not " + tq + " and " + tr, !q && r);
            dueTest("not[" + tq + " and " + tr + "]", !(q && r));
            dueTest("not " + tq + " or " + tr, !q || r);
            dueTest("not[" + tq + " or " + tr + "]", !(q || r));
            dueTest("not not " + tq + " or " + tp, q || p);
        }
        // of the one who hears, with the page that is told, as the night is counted now
        dueTest("lines=7 and print=1 and pace=5 and eyes=0 and knows=1 and draft=4 and sitting=2 and inch=50 and night=1", true);
        dueTest("pace=2", false);
        dueTest("eyes=3", false);
        dueTest("lines=1", false);
        dueTest("night=0", false);
        // sums in a test are as bounded as others
        dueTest("9999*9999=1000*1000", true);
        dueTest("0-9999*9999-9999=0-1000*1000", true);
        dueTest("1000*1000-1<1000*1000", true);
        dueTest("5/0=0 and 5%0=0", true);
    }

    /** "the SUM of takes, 1 .. 500 (below is 1, above 500)." */
    private static void takesFrom1To500() {
        String[] sums = {"0-9999*9999", "0-1", "0", "1", "2", "499", "500", "501", "9999*9999"};
        int[] due = {1, 1, 1, 1, 2, 499, 500, 500, 500};
        for (int k = 0; k < sums.length; k++) {
            CandleInch x = Check.of("book b;page p of b lines 7;" + Check.readers(6) + Check.tables(1) + "burns 500;takes " + sums[k] + ";");
            Check.due("takes " + sums[k], x.takes(0, 0), due[k]);
            x.list(0, 0);
            Check.due("reads until", x.tonight(0, 2), due[k]);
            Check.due("work", x.work(0, 1, 0), due[k]);
            Check.due("wax", x.wax(0, due[k], 0), 1);
            Check.due("most", x.most(0, 1, 2), due[k]);
            Check.due("shared", x.shared(1, 20), due[k]);
        }
    }

    /** "by the SUM of burns for him, 0 .. 500 minutes (below is 0, above 500)." */
    private static void burnsFrom0To500() {
        String[] sums = {"0-9999*9999", "0-1", "0", "1", "499", "500", "501", "9999*9999"};
        int[] due = {0, 0, 0, 1, 499, 500, 500, 500};
        for (int k = 0; k < sums.length; k++) {
            CandleInch x = Check.of("book b;page p of b lines 7;" + Check.readers(6) + Check.tables(1) + "burns " + sums[k] + ";");
            Check.due("burns " + sums[k], x.burns(0), due[k]);
            Check.due("light", x.table(0, 2), 6 * due[k]);
            Check.due("light", x.whole(1), 6 * due[k]);
            Check.due("wax", x.whole(2), 6 * due[k]);
            Check.due("wax", x.seated(20), 6 * due[k]);
        }
        // each inch for itself: below 0 takes nothing from the others
        CandleInch y = Check.of("reader r pace 1 eyes 0;reader s pace 9 eyes 0;" + Check.tables(1) + "burns 50-10*pace;");
        Check.due("light", y.table(0, 2), 40);
    }

    /** "without it its lines", "without it the inch", "without tells all may be told". */
    private static void withoutRules() {
        CandleInch x = Check.of("book b;page p of b lines 1;page q of b lines 99 big;" + Check.readers(2) + Check.tables(1) + "inch 120;");
        Check.due("takes", x.takes(0, 0), 1);
        Check.due("takes", x.takes(0, 1), 99);
        Check.due("burns", x.burns(0), 120);
        x.list(0, 0);
        x.list(0, 1);
        x.night();
        Check.due("tell", x.tell(0, 1, 0), true);
        Check.due("tell", x.tell(0, 1, 1), true);
        CandleInch y = Check.of(Check.pages(1, 1) + Check.readers(2) + Check.tables(1) + "tells not all;");
        y.list(0, 0);
        y.night();
        Check.due("with tells", y.tell(0, 1, 0), false);
    }

    /** "that many minutes together is LIGHT there for all of them." */
    private static void lightIsThatOfAllThere() {
        CandleInch x = Check.of(Check.pages(2, 30) + "reader ra pace 1 eyes 5;reader rb pace 1 eyes 6;reader rc pace 1 eyes 9;"
                + "table ta draft 0;table tb draft 2;burns eyes-draft;takes 11;");
        x.list(0, 0);
        x.list(1, 0);
        x.seat(2, 1);
        Check.due("light", x.table(0, 2), 11);
        Check.due("light", x.table(1, 2), 7);
        dueNight(x, 0, 1, 1, 11, NONE, 0);
        dueNight(x, 1, 1, 1, 11, NONE, 0);
        x.seat(1, 1);
        dueNight(x, 0, 0, 0, 5, 0, 5);
        dueNight(x, 1, 1, 1, 11, NONE, 0);
        dueWhole(x, 1, 5 + 11, 0, 2);
    }

    private static CandleInch oneReader(String pages, String rules) {
        return Check.of("book b;" + pages + "reader r pace 1 eyes 0;table t draft 0;" + rules);
    }

    /** "so on as long as he has been reading for less than the LIGHT": "If the LIGHT is over within a PAGE, he left that off." */
    private static void pageWithinTheLight() {
        for (int lines = 18; lines <= 22; lines++) {
            CandleInch x = oneReader("page p of b lines " + lines + ";", "burns 20;");
            x.list(0, 0);
            boolean read = lines <= 20;
            dueNight(x, 0, read ? 1 : 0, read ? 1 : 0, Math.min(lines, 20), read ? NONE : 0, read ? 0 : 20);
            dueWhole(x, read ? 1 : 0, 20, Math.max(0, 20 - lines), read ? 0 : 1);
            Check.due("night", x.night(), read ? 1 : 0);
            Check.due("left off", x.reader(0, 5), read ? NONE : 0);
            Check.due("into it", x.reader(0, 6), read ? 0 : 20);
            Check.due("listed", x.reader(0, 7), read ? 0 : 1);
            Check.due("read", x.reader(0, 3), read ? 1 : 0);
            Check.due("wax", x.has(7), Math.max(0, 20 - lines));
        }
    }

    /** A page that ends with the light leaves none begun; one minute ahead of it the next one is left off. */
    private static void nextWithinTheLight() {
        for (int first = 17; first <= 20; first++) {
            CandleInch x = oneReader("page p of b lines " + first + ";page q of b lines 2;", "burns 20;");
            x.list(0, 0);
            x.list(0, 1);
            if (first <= 18) {
                dueNight(x, 0, 2, 3, first + 2, NONE, 0);
            } else if (first == 19) {
                dueNight(x, 0, 1, 1, 20, 1, 1);
            } else {
                dueNight(x, 0, 1, 1, 20, NONE, 0);
            }
            x.night();
            Check.due("listed", x.reader(0, 7), first <= 18 ? 0 : 1);
            Check.due("left off", x.reader(0, 5), first == 19 ? 1 : NONE);
            Check.due("into it", x.reader(0, 6), first == 19 ? 1 : 0);
        }
    }

    /** "the minutes he is into the one he left off are then told as done." */
    private static void goesOnWithWhatWasLeftOff() {
        for (int lines = 39; lines <= 41; lines++) {
            CandleInch x = oneReader("page p of b lines " + lines + ";page q of b lines 20;", "burns 20;");
            x.list(0, 0);
            x.list(0, 1);
            x.night();
            Check.due("into it", x.reader(0, 6), 20);
            Check.due("takes is of the whole page", x.takes(0, 0), lines);
            if (lines == 39) {
                dueNight(x, 0, 1, 1, 20, 1, 1);
            } else if (lines == 40) {
                dueNight(x, 0, 1, 1, 20, NONE, 0);
            } else {
                dueNight(x, 0, 0, 0, 20, 0, 40);
            }
            x.night();
            Check.due("left off", x.reader(0, 5), lines == 39 ? 1 : lines == 40 ? NONE : 0);
            Check.due("into it", x.reader(0, 6), lines == 39 ? 1 : lines == 40 ? 0 : 40);
            Check.due("night", x.night(), 1);
            Check.due("kept", x.kept(0, 0), lines == 41 ? 3 : 2);
        }
        // 500 minutes, 499 of them done: one minute more
        CandleInch x = oneReader("page p of b lines 1;", "burns 499-499*min(1,night)+night;takes 500;");
        x.list(0, 0);
        x.night();
        Check.due("into it", x.reader(0, 6), 499);
        dueNight(x, 0, 1, 1, 1, NONE, 0);
        dueWhole(x, 1, 1, 0, 0);
    }

    /** "(if he is as far as it takes, it is read at once)", as he is and sits when he begins it anew. */
    private static void readAtOnce() {
        for (int less = 28; less <= 32; less++) {
            // p takes 50, and in the second night 22 .. 18, of which 20 are done; q takes 20
            String pages = "page p of b lines 50 big;page q of b lines 20;";
            CandleInch x = oneReader(pages, "burns 20;takes lines-night*print*" + less + ";");
            x.list(0, 0);
            x.night();
            Check.due("into it", x.reader(0, 6), 20);
            int more = Math.max(0, 30 - less);
            dueNight(x, 0, 1, 1, more, NONE, 0);
            dueWhole(x, 1, 20, 20 - more, 0);
            x.list(0, 1);
            if (more == 0) {
                dueNight(x, 0, 2, 3, 20, NONE, 0);
            } else {
                dueNight(x, 0, 1, 1, 20, 1, 20 - more);
            }
            Check.due("night", x.night(), more == 0 ? 2 : 1);
            Check.due("read", x.reader(0, 3), more == 0 ? 3 : 1);
        }
    }

    /** "first the PAGE he left off, if he may; else the first PAGE of his LIST that he MAY read." */
    private static void leftOffIsFirst() {
        // q needs p: s is begun; then p is heard of, and q may be read, but s was left off
        CandleInch x = Check.of("book b;page p of b lines 5;page q of b lines 5;page s of b lines 30;needs q p;"
                + Check.readers(2) + Check.tables(1) + "burns 10;");
        x.list(0, 1);
        x.list(0, 2);
        x.list(1, 0);
        x.night();
        Check.due("left off", x.reader(0, 5), 2);
        Check.due("into it", x.reader(0, 6), 20);
        Check.due("told", x.tell(1, 0, 0), true);
        dueNight(x, 0, 2, 6, 15, NONE, 0);
        x.night();
        Check.due("first what was left off", x.kept(1, 2), 2);
        Check.due("then the list", x.kept(2, 2), 1);
        x.undo();
        x.drop(0);
        x.list(0, 1);
        x.list(0, 2);
        dueNight(x, 0, 1, 2, 20, 2, 15);
    }

    /** "the first PAGE of his LIST that he MAY read: he knows all PAGES it NEEDS." */
    private static void mayReadWhatItNeeds() {
        String text = "book b;page p of b lines 5;page q of b lines 5;page s of b lines 5;page u of b lines 5;needs s p;needs s q;needs u s;"
                + Check.readers(2) + Check.tables(1) + "burns 40;";
        CandleInch x = Check.of(text);
        x.list(0, 2);
        dueNight(x, 0, 0, 0, 0, NONE, 0);
        x.list(1, 0);
        x.list(1, 1);
        x.night();
        x.tell(1, 0, 0);
        dueNight(x, 0, 0, 0, 0, NONE, 0);
        x.tell(1, 0, 1);
        dueNight(x, 0, 1, 4, 5, NONE, 0);
        // what he reads in the night opens the next one, but none that needs more
        CandleInch y = Check.of(text);
        y.list(0, 3);
        y.list(0, 2);
        y.list(0, 0);
        dueNight(y, 0, 1, 1, 5, NONE, 0);
        y.list(0, 1);
        dueNight(y, 0, 4, 15, 20, NONE, 0);
        y.night();
        int[] order = {0, 1, 2, 3};
        for (int k = 0; k < 4; k++) {
            Check.due("as they were read", y.kept(k, 2), order[k]);
        }
    }

    /** "A PAGE read leaves the LIST, and he knows it; so on": eight pages in their order. */
    private static void listInItsOrder() {
        CandleInch x = Check.of(Check.pages(14, 10) + "needs pn pa;" + Check.readers(1) + Check.tables(1) + "inch 75;");
        int[] list = {13, 12, 3, 0, 7, 5, 9, 11};
        int[] order = {12, 3, 0, 13, 7, 5, 9};
        for (int page : list) {
            x.list(0, page);
        }
        int bits = 0;
        for (int page : order) {
            bits |= 1 << page;
        }
        dueNight(x, 0, 7, bits, 75, 11, 5);
        Check.due("night", x.night(), 7);
        for (int k = 0; k < 7; k++) {
            Check.due("as they were read", x.kept(k, 2), order[k]);
        }
        Check.due("listed", x.reader(0, 7), 1);
        Check.due("listed", x.reader(0, 10), 11);
    }

    /** "(Whoever goes on with another PAGE than the one he left off loses what he had done.)" */
    private static void loses() {
        // q was left off (as an image tells), but he may not read it
        String text = "book b;page p of b lines 30;page q of b lines 30;page s of b lines 15;needs q p;" + Check.readers(1) + Check.tables(1);
        int[] image = Check.checked(0, 0, 0, 0, 0, 0, 0, 0, 0, 2, 0, 25, 2, 1, 2, 0);
        CandleInch x = Check.of(text + "burns 20;");
        Check.due("on", Check.on(x, image), true);
        dueNight(x, 0, 1, 4, 15, NONE, 0);
        x.night();
        Check.due("left off", x.reader(0, 5), NONE);
        Check.due("into it", x.reader(0, 6), 0);
        Check.due("listed", x.reader(0, 10), 1);
        // another one is left off instead
        CandleInch y = Check.of(text + "burns 10;");
        Check.on(y, image);
        dueNight(y, 0, 0, 0, 10, 2, 10);
        // he comes back to it within the night: it is begun anew
        CandleInch z = Check.of(text + "burns 50;");
        Check.on(z, image);
        z.list(0, 0);
        dueNight(z, 0, 2, 5, 50, 1, 5);
        // if he may, it goes on with what was done
        CandleInch u = Check.of(text + "burns 4;");
        Check.on(u, Check.checked(0, 0, 0, 0, 0, 0, 1, 0, 0, 2, 0, 25, 2, 2, 1, 0));
        dueNight(u, 0, 0, 0, 4, 1, 29);
    }

    /** What was left off stays so when he sits elsewhere, when his list grows, and in a night without light or pages. */
    private static void losesNothingWithoutReading() {
        CandleInch x = Check.of(Check.pages(3, 50) + "needs pc pb;" + Check.readers(2) + "table ta draft 0;table tb draft 9;burns 10-2*draft;");
        x.list(0, 0);
        x.night();
        Check.due("into it", x.reader(0, 6), 20);
        x.seat(0, 1);
        x.list(0, 2);
        x.list(1, 0);
        x.drop(1);
        x.seed(3);
        Check.due("light", x.table(1, 2), 0);
        dueNight(x, 0, 0, 0, 0, 0, 20);
        x.night();
        x.winter(3);
        Check.due("left off", x.reader(0, 5), 0);
        Check.due("into it", x.reader(0, 6), 20);
        x.seat(0, 0);
        dueNight(x, 0, 0, 0, 20, 0, 40);
        // he may read none: what he left off (as an image tells) is as it was
        CandleInch y = Check.of(Check.pages(2, 50) + "needs pb pa;" + Check.readers(1) + Check.tables(1) + "burns 10;");
        Check.on(y, Check.checked(0, 0, 0, 0, 0, 0, 0, 0, 0, 2, 0, 25, 1, 1, 0));
        dueNight(y, 0, 0, 0, 0, 1, 25);
        dueWhole(y, 0, 10, 10, 1);
        y.night();
        Check.due("left off", y.reader(0, 5), 1);
        Check.due("into it", y.reader(0, 6), 25);
    }

    /** LIGHT of no minute and of one. */
    private static void littleLight() {
        CandleInch x = oneReader("page p of b lines 1;page q of b lines 2;page s of b lines 1;", "burns night%2;");
        x.list(0, 0);
        x.list(0, 1);
        x.list(0, 2);
        dueNight(x, 0, 0, 0, 0, NONE, 0);
        dueWhole(x, 0, 0, 0, 1);
        Check.due("no light", x.night(), 0);
        dueNight(x, 0, 1, 1, 1, NONE, 0);
        Check.due("one minute", x.night(), 1);
        Check.due("no light", x.night(), 0);
        dueNight(x, 0, 0, 0, 1, 1, 1);
        Check.due("one minute", x.night(), 0);
        Check.due("no light", x.night(), 0);
        Check.due("into it", x.reader(0, 6), 1);
        dueNight(x, 0, 1, 2, 1, NONE, 0);
        Check.due("one minute", x.night(), 1);
        Check.due("all were of use", x.has(7), 0);
        // a page that is as good as done is not read without light, and at once with it
        CandleInch y = oneReader("page p of b lines 20;", "burns 10*(night%2);takes lines-15*(night/2);");
        y.list(0, 0);
        y.night();
        y.night();
        Check.due("into it", y.reader(0, 6), 10);
        dueNight(y, 0, 0, 0, 0, 0, 10);
        y.night();
        dueNight(y, 0, 1, 1, 0, NONE, 0);
        dueWhole(y, 1, 10, 10, 0);
    }

    /** "as he is and sits when he begins it anew." */
    private static void asHeIsWhenHeBegins() {
        String pages = "page p of b lines 10;page q of b lines 10;page s of b lines 10;";
        CandleInch x = oneReader(pages, "burns 60-20*knows;takes lines*(1+knows);");
        x.list(0, 0);
        x.list(0, 1);
        x.list(0, 2);
        // 10, then 20, then 30 minutes; the inch burns as he was when the night began
        dueNight(x, 0, 3, 7, 60, NONE, 0);
        Check.due("takes, as he is now", x.takes(0, 2), 10);
        Check.due("burns, as he is now", x.burns(0), 60);
        x.night();
        Check.due("burns", x.burns(0), 0);
        // he sits elsewhere, and not alone: it takes what it takes there, and what is done is done
        CandleInch y = Check.of("book b;" + pages + Check.readers(2) + "table ta draft 0;table tb draft 5;burns 10;takes 30+draft+sitting;");
        y.list(0, 0);
        y.seat(1, 1);
        y.night();
        Check.due("into it", y.reader(0, 6), 10);
        y.seat(0, 1);
        dueNight(y, 0, 0, 0, 20, 0, 30);
        y.night();
        dueNight(y, 0, 1, 1, 7, NONE, 0);
        y.seat(1, 0);
        dueNight(y, 0, 1, 1, 6, NONE, 0);
    }

    /** "LIGHT of a TABLE behind the minute in which the last one there stops reading is saved (all, when nobody reads there)." */
    private static void wax() {
        CandleInch x = Check.of(Check.pages(4, 12) + Check.readers(4) + Check.tables(3) + "burns 10;");
        dueWhole(x, 0, 40, 40, 4);
        x.list(0, 0);
        dueWhole(x, 1, 40, 28, 3);
        x.list(1, 0);
        x.list(1, 1);
        dueWhole(x, 3, 40, 16, 2);
        x.list(2, 0);
        dueWhole(x, 4, 40, 16, 1);
        x.list(1, 2);
        dueWhole(x, 5, 40, 4, 1);
        x.list(1, 3);
        dueWhole(x, 5, 40, 0, 1);
        // at the second table one reads until 12 of 20; at the third one nobody sits
        x.seat(2, 1);
        x.seat(3, 1);
        dueWhole(x, 3, 40, 8, 1);
        x.seat(2, 2);
        dueWhole(x, 2, 40, 10, 2);
        Check.due("wax", x.has(7), 0);
        x.night();
        Check.due("wax", x.has(7), 10);
        Check.due("light", x.table(1, 2), 10);
    }

    /** "3 READERS who read nothing to its end." */
    private static void readersWhoReadNothing() {
        CandleInch x = Check.of(Check.pages(2, 12) + Check.readers(3) + Check.tables(3) + "burns 11;");
        x.seat(1, 1);
        x.seat(2, 2);
        Check.due("all", x.whole(3), 3);
        x.list(0, 0);
        Check.due("left off is not to its end", x.whole(3), 3);
        x.night();
        Check.due("he reads it to its end", x.whole(3), 2);
        Check.due("without readers", new CandleInch().whole(3), 0);
    }

    /** "Of a READER in the NIGHT, were it now." */
    private static void tonightChangesNothing() {
        CandleInch x = Check.of(Check.pages(3, 12) + Check.readers(2) + Check.tables(1) + "burns 15;");
        x.list(0, 0);
        x.list(0, 1);
        x.list(0, 2);
        x.list(1, 0);
        java.util.List<Integer> before = Check.stateOf(x);
        for (int again = 0; again < 2; again++) {
            dueNight(x, 0, 2, 3, 30, 2, 6);
            dueNight(x, 1, 1, 1, 12, NONE, 0);
            dueWhole(x, 3, 30, 0, 0);
        }
        Check.same("all stays", Check.stateOf(x), before);
        // and the night brings just that
        Check.due("night", x.night(), 3);
        Check.due("read", x.reader(0, 3), 3);
        Check.due("left off", x.reader(0, 5), 2);
        Check.due("into it", x.reader(0, 6), 6);
        Check.due("wax", x.has(7), 0);
    }
}
