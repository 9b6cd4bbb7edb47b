/** Promises 8 to 14: pages, readers, tables, the sums, the night were it now. */
public final class ReadingTest {
    private static final int NONE = CandleInch.NONE;
    static final String VAULT =
            "book aq;book ix;page one of aq lines 20;page two of aq lines 30 big;page tri of aq lines 40;"
            + "page idx of ix lines 10;needs two one;needs tri two;needs idx one;reader tom pace 2 eyes 0;"
            + "reader ann pace 1 eyes 3;table nook draft 0;table door draft 5;inch 30;burns inch-draft*2-sitting;"
            + "takes lines/pace+eyes*(1-print);tells lines<35 or knows>2;";

    public static void main(String[] args) {
        page();
        reader();
        table();
        sums();
        tests();
        bounds();
        withoutRules();
        tonight();
        leftOff();
        readAtOnce();
        leftOffButMayNot();
        noLight();
        whole();
        Check.close("ReadingTest");
    }

    private static void dueRow(String what, int[] got, int... want) {
        for (int k = 0; k < want.length; k++) {
            Check.due(what + " [" + k + "]", got[k], want[k]);
        }
    }

    private static int[] pageRow(CandleInch x, int page) {
        int[] row = new int[6];
        for (int k = 0; k < 6; k++) {
            row[k] = x.page(page, k);
        }
        return row;
    }

    static int[] readerRow(CandleInch x, int reader) {
        int[] row = new int[18];
        for (int k = 0; k < 18; k++) {
            row[k] = x.reader(reader, k);
        }
        return row;
    }

    private static int[] tonightRow(CandleInch x, int reader) {
        int[] row = new int[5];
        for (int k = 0; k < 5; k++) {
            row[k] = x.tonight(reader, k);
        }
        return row;
    }

    private static int[] wholeRow(CandleInch x) {
        int[] row = new int[4];
        for (int k = 0; k < 4; k++) {
            row[k] = x.whole(k);
        }
        return row;
    }

    private static void page() {
        CandleInch x = Check.of(VAULT);
        dueRow("page one", pageRow(x, 0), 0, 20, 0, 0, 0, 0);
        dueRow("page two", pageRow(x, 1), 0, 30, 1, 1, 1, 0);
        dueRow("page tri", pageRow(x, 2), 0, 40, 0, 2, 3, 0);
        dueRow("page idx", pageRow(x, 3), 1, 10, 0, 1, 1, 0);
        Check.due("page(4, 0)", x.page(4, 0), NONE);
        Check.due("page(-1, 0)", x.page(-1, 0), NONE);
        Check.due("page(0, 6)", x.page(0, 6), NONE);
        Check.due("page(0, -1)", x.page(0, -1), NONE);
        x.list(0, 0);
        x.list(1, 0);
        x.night();
        Check.due("known by", x.page(0, 5), 2);
        // what a page needs may be told in any order
        CandleInch y = Check.of("book b;page p of b lines 1;page q of b lines 1;page r of b lines 1;page s of b lines 1;"
                + "needs s r;needs r q;needs q p;");
        Check.due("all that it needs", y.page(3, 4), 7);
        Check.due("what it needs", y.page(3, 3), 4);
    }

    private static void reader() {
        CandleInch x = Check.of(VAULT);
        dueRow("tom", readerRow(x, 0), 0, 2, 0, 0, 0, NONE, 0, 0, NONE, NONE, NONE);
        dueRow("ann", readerRow(x, 1), 0, 1, 3, 0, 0, NONE, 0, 0, NONE, NONE, NONE);
        Check.due("reader(2, 0)", x.reader(2, 0), NONE);
        Check.due("reader(-1, 0)", x.reader(-1, 0), NONE);
        Check.due("reader(0, -1)", x.reader(0, -1), NONE);
        Check.due("reader(0, min)", x.reader(0, Integer.MIN_VALUE), NONE);
        Check.due("reader(0, max)", x.reader(0, Integer.MAX_VALUE), NONE);
        x.list(0, 2);
        x.list(0, 0);
        dueRow("tom's list", readerRow(x, 0), 0, 2, 0, 0, 0, NONE, 0, 2, NONE, NONE, 2, 0, NONE);
        x.night();
        x.tell(0, 1, 0);
        Check.due("read", x.reader(0, 3), 1);
        Check.due("heard", x.reader(1, 4), 1);
    }

    private static void table() {
        CandleInch x = Check.of(VAULT);
        Check.due("draft", x.table(1, 0), 5);
        Check.due("sit", x.table(0, 1), 2);
        Check.due("light", x.table(0, 2), 56);
        Check.due("nobody", x.table(1, 1), 0);
        Check.due("no light", x.table(1, 2), 0);
        x.seat(1, 1);
        Check.due("sit", x.table(0, 1), 1);
        Check.due("light", x.table(0, 2), 29);
        Check.due("light at the door", x.table(1, 2), 19);
        Check.due("table(2, 0)", x.table(2, 0), NONE);
        Check.due("table(-1, 0)", x.table(-1, 0), NONE);
        Check.due("table(0, 3)", x.table(0, 3), NONE);
        Check.due("table(0, -1)", x.table(0, -1), NONE);
    }

    private static CandleInch withTakes(String sum) {
        return Check.of("book b;page p of b lines 7 big;page q of b lines 11;reader r pace 2 eyes 3;reader s pace 9 eyes 0;"
                + "table t draft 4;table u draft 9;inch 50;takes 250+(" + sum + ");");
    }

    private static void dueSum(String sum, int want) {
        Check.due(sum, withTakes(sum).takes(0, 0) - 250, want);
    }

    private static void sums() {
        dueSum("10-3-2", 5);
        dueSum("2+3*4", 14);
        dueSum("(2+3)*4", 20);
        dueSum("100/7/2", 7);
        dueSum("17%5*2", 4);
        dueSum("2*17%5", 4);
        dueSum("10-2*3+1", 5);
        dueSum("(0-7)/2", -4);
        dueSum("(0-7)%2", 1);
        dueSum("7/(0-2)", -4);
        dueSum("7%(0-2)", -1);
        dueSum("(0-7)/(0-2)", 3);
        dueSum("(0-7)%(0-2)", -1);
        dueSum("5/0", 0);
        dueSum("5%0", 0);
        dueSum("0/5", 0);
        dueSum("9999*9999/5000", 200);
        dueSum("(0-9999*9999)*2/5000", -200);
        dueSum("(9999*9999+9999)/5000", 200);
        dueSum("(0-9999*9999-9999)/5000", -200);
        dueSum("9999*100/5000", 199);
        dueSum("min(3,4)-max(3,4)", -1);
        dueSum("min(4,3)-max(4,3)", -1);
        dueSum("max(0-5,0-6)", -5);
        dueSum("min(max(1,2),max(3,min(9,4)))", 2);
        dueSum("lines", 7);
        dueSum("print", 1);
        dueSum("pace", 2);
        dueSum("eyes", 3);
        dueSum("knows", 0);
        dueSum("draft", 4);
        dueSum("sitting", 2);
        dueSum("inch", 50);
        dueSum("night", 0);
        CandleInch x = withTakes("draft*10+sitting");
        x.seat(0, 1);
        Check.due("as he sits now", x.takes(0, 0), 250 + 91);
        CandleInch y = withTakes("100*knows+night");
        x = withTakes("print*100+lines");
        Check.due("another page", x.takes(0, 1), 250 + 11);
        for (int k = 0; k < 7; k++) {
            y.night();
        }
        Check.due("as the night is counted", y.takes(0, 0), 257);
        y.list(0, 1);
        for (int k = 0; k < 3; k++) {
            y.night();
        }
        Check.due("as he knows now", y.takes(0, 0), 250 + 110);
        Check.due("takes(2, 0)", x.takes(2, 0), NONE);
        Check.due("takes(-1, 0)", x.takes(-1, 0), NONE);
        Check.due("takes(0, 2)", x.takes(0, 2), NONE);
        Check.due("takes(0, -1)", x.takes(0, -1), NONE);
        CandleInch z = Check.of("book b;page p of b lines 7 big;reader r pace 2 eyes 3;table t draft 4;inch 50;"
                + "burns 100*lines+200*print+pace*16+eyes*8+knows*4+draft*2+sitting+inch+night;");
        Check.due("in burns lines and print are 0", z.burns(0), 32 + 24 + 8 + 1 + 50);
        z.takes(0, 0);
        Check.due("in burns lines and print are 0", z.burns(0), 115);
        z.list(0, 0);
        z.night();
        Check.due("burns as he knows now", z.burns(0), 115 + 4 + 1);
        Check.due("burns(1)", z.burns(1), NONE);
        Check.due("burns(-1)", z.burns(-1), NONE);
    }

    /** What tells says is told by tell(), for the one who hears. */
    private static void dueTest(String test, boolean want) {
        CandleInch x = Check.of("book b;page p of b lines 7 big;reader r pace 2 eyes 3;reader s pace 5 eyes 0;"
                + "table t draft 4;inch 50;tells " + test + ";");
        x.list(0, 0);
        x.night();
        Check.due(test, x.tell(0, 1, 0), want);
    }

    private static void tests() {
        dueTest("all", true);
        dueTest("not all", false);
        dueTest("not not all", true);
        dueTest("1<2", true);
        dueTest("2<2", false);
        dueTest("2>1", true);
        dueTest("2>2", false);
        dueTest("2=2", true);
        dueTest("2=1", false);
        dueTest("all or all and not all", true);
        dueTest("[all or all] and not all", false);
        dueTest("not all and all or all", true);
        dueTest("not [all and all or all]", false);
        dueTest("not all or all", true);
        dueTest("1=2 or 2=3 or 3=3", true);
        dueTest("1=1 and 2=2 and 3=4", false);
        dueTest("lines=7 and print=1 and pace=5 and eyes=0 and knows=0 and draft=4 and sitting=2 and inch=50 and night=1", true);
        dueTest("0-5<0-4", true);
        dueTest("2=2 and 1<2 and 2>1 and all", true);
        dueTest("not 2=2 or not 1<2 or not 2>1", false);
    }

    private static void bounds() {
        String some = "book b;page p of b lines 7;reader r pace 2 eyes 3;table t draft 4;";
        Check.due("0 is 1", Check.of(some + "takes 0;").takes(0, 0), 1);
        Check.due("below is 1", Check.of(some + "takes 0-9999;").takes(0, 0), 1);
        Check.due("1", Check.of(some + "takes 1;").takes(0, 0), 1);
        Check.due("500", Check.of(some + "takes 500;").takes(0, 0), 500);
        Check.due("above is 500", Check.of(some + "takes 501;").takes(0, 0), 500);
        Check.due("0", Check.of(some + "burns 0;").burns(0), 0);
        Check.due("below is 0", Check.of(some + "burns 0-1;").burns(0), 0);
        Check.due("500", Check.of(some + "burns 500;").burns(0), 500);
        Check.due("above is 500", Check.of(some + "burns 501;").burns(0), 500);
    }

    private static void withoutRules() {
        CandleInch x = Check.of("book b;page p of b lines 7 big;reader r pace 2 eyes 3;reader s pace 9 eyes 0;table t draft 4;");
        Check.due("its lines", x.takes(0, 0), 7);
        Check.due("the inch", x.burns(0), 60);
        Check.due("light", x.table(0, 2), 120);
    }

    private static void tonight() {
        CandleInch x = Check.of(VAULT);
        dueRow("nothing to read", tonightRow(x, 0), 0, 0, 0, NONE, 0);
        x.list(0, 2);
        dueRow("nothing he may read", tonightRow(x, 0), 0, 0, 0, NONE, 0);
        x.list(0, 1);
        x.list(0, 0);
        x.list(0, 3);
        // one (10) opens two and idx; two stands ahead; then tri, the first of the list
        dueRow("by what he may", tonightRow(x, 0), 4, 15, 50, NONE, 0);
        x.seat(1, 1);
        dueRow("29 minutes", tonightRow(x, 0), 2, 3, 29, 2, 4);
        Check.due("nothing has happened", x.has(6), 0);
        Check.due("nothing has happened", x.reader(0, 5), NONE);
        Check.due("tonight(2, 0)", x.tonight(2, 0), NONE);
        Check.due("tonight(-1, 0)", x.tonight(-1, 0), NONE);
        Check.due("tonight(0, 5)", x.tonight(0, 5), NONE);
        Check.due("tonight(0, -1)", x.tonight(0, -1), NONE);
        // as long as he has been reading for less than the light: a page that ends with it is read, none begun
        CandleInch y = Check.of("book b;page p of b lines 10;page q of b lines 10;reader r pace 1 eyes 0;table t draft 0;burns 10;");
        y.list(0, 0);
        y.list(0, 1);
        dueRow("just the light", tonightRow(y, 0), 1, 1, 10, NONE, 0);
        // what he knows by then counts for the next page
        CandleInch z = Check.of("book b;page p of b lines 10;page q of b lines 10;page s of b lines 10;"
                + "reader r pace 1 eyes 0;table t draft 0;burns 100-50*knows;takes lines*(1+knows);");
        z.list(0, 0);
        z.list(0, 1);
        z.list(0, 2);
        dueRow("as he is when he begins it", tonightRow(z, 0), 3, 7, 60, NONE, 0);
    }

    private static void leftOff() {
        CandleInch x = Check.of("book b;page p of b lines 50;page q of b lines 5;reader r pace 1 eyes 0;table t draft 0;"
                + "burns 20;takes lines-10*draft-night;table u draft 2;");
        x.list(0, 0);
        x.night();
        dueRow("left off", readerRow(x, 0), 0, 1, 0, 0, 0, 0, 20, 1, NONE, NONE, 0);
        x.list(0, 1);
        x.drop(0);
        x.list(0, 1);
        x.list(0, 0);
        dueRow("nothing left off: the first of the list", tonightRow(x, 0), 1, 2, 20, 0, 16);
        x.undo();
        x.undo();
        x.undo();
        Check.due("list is p, q again", x.reader(0, 11), 1);
        // at the other table p takes 50 - 20 - 1, of which 20 are done, and q 1
        x.seat(0, 1);
        dueRow("how long is told anew", tonightRow(x, 0), 2, 3, 10, NONE, 0);
    }

    private static void readAtOnce() {
        CandleInch x = Check.of("book b;page p of b lines 50;page q of b lines 30;reader r pace 1 eyes 0;table t draft 0;"
                + "table u draft 9;burns 20;takes lines-5*draft;");
        x.list(0, 0);
        x.night();
        x.list(0, 1);
        x.seat(0, 1);
        // there p takes 5, and he is 20 into it
        dueRow("read at once", tonightRow(x, 0), 2, 3, 1, NONE, 0);
        Check.due("wax", x.whole(2), 19);
        Check.due("night", x.night(), 2);
        CandleInch y = Check.of("book b;page p of b lines 50;reader r pace 1 eyes 0;table t draft 0;table u draft 9;"
                + "burns 20-3*draft;takes lines-5*draft;");
        y.list(0, 0);
        y.night();
        y.seat(0, 1);
        dueRow("but not without light", tonightRow(y, 0), 0, 0, 0, 0, 20);
    }

    private static void leftOffButMayNot() {
        CandleInch x = Check.of("book b;page p of b lines 50;page q of b lines 30;page s of b lines 30;needs q p;"
                + "reader r pace 1 eyes 0;table t draft 0;burns 20;");
        // an image may tell that q is left off although p is not known
        Check.due("on", Check.on(x, Check.checked(0, 0, 0, 0, 0, 0, 0, 0, 0, 2, 0, 7, 1, 1, 0)), true);
        dueRow("stays as it is", tonightRow(x, 0), 0, 0, 0, 1, 7);
        x.list(0, 2);
        dueRow("loses what he had done", tonightRow(x, 0), 0, 0, 20, 2, 20);
        x.night();
        Check.due("left off", x.reader(0, 5), 2);
        Check.due("list stays", x.reader(0, 7), 2);
        x.night();
        dueRow("read, and no more that he may", readerRow(x, 0), 0, 1, 0, 4, 0, NONE, 0, 1, NONE, NONE, 1);
    }

    private static void noLight() {
        CandleInch x = Check.of("book b;page p of b lines 50;reader r pace 1 eyes 0;table t draft 0;burns 20-20*night%40;");
        x.list(0, 0);
        x.night();
        Check.due("no light", x.table(0, 2), 0);
        dueRow("stays as it is", tonightRow(x, 0), 0, 0, 0, 0, 20);
        x.night();
        Check.due("into it", x.reader(0, 6), 20);
        Check.due("light again", x.table(0, 2), 20);
        x.night();
        Check.due("into it", x.reader(0, 6), 40);
    }

    private static void whole() {
        CandleInch x = Check.of(VAULT);
        dueRow("all is saved when nobody reads", wholeRow(x), 0, 56, 56, 2);
        x.list(0, 0);
        dueRow("to the last one", wholeRow(x), 1, 56, 46, 1);
        x.list(1, 0);
        dueRow("to the last one", wholeRow(x), 2, 56, 33, 0);
        x.seat(1, 1);
        dueRow("by tables", wholeRow(x), 1, 48, 19, 1);
        Check.due("whole(4)", x.whole(4), NONE);
        Check.due("whole(-1)", x.whole(-1), NONE);
    }
}
