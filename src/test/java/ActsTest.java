/** Promises 15 to 23: acts, the seed, what is kept. */
public final class ActsTest {
    private static final int NONE = CandleInch.NONE;

    public static void main(String[] args) {
        seat();
        list();
        drop();
        tell();
        tellLeavesList();
        night();
        nightLimit();
        winter();
        winterDraws();
        undo();
        undoKept();
        seed();
        kept();
        waxLimit();
        Check.close("ActsTest");
    }

    private static String pages(int n, int lines) {
        StringBuilder s = new StringBuilder("book b;");
        for (int k = 0; k < n; k++) {
            s.append("page p").append((char) ('a' + k)).append(" of b lines ").append(lines).append(';');
        }
        return s.toString();
    }

    private static void seat() {
        CandleInch x = Check.of(ReadingTest.VAULT);
        Check.due("seat(0, 0)", x.seat(0, 0), false);
        Check.due("seat(0, 2)", x.seat(0, 2), false);
        Check.due("seat(0, -1)", x.seat(0, -1), false);
        Check.due("seat(2, 1)", x.seat(2, 1), false);
        Check.due("seat(-1, 1)", x.seat(-1, 1), false);
        Check.due("status(2)", x.status(2), 5);
        Check.due("no acts", x.has(10), 0);
        Check.due("seat(0, 1)", x.seat(0, 1), true);
        Check.due("table", x.reader(0, 0), 1);
        Check.due("seat(0, 1) again", x.seat(0, 1), false);
        Check.due("acts", x.has(10), 1);
        Check.due("undo", x.undo(), true);
        Check.due("table", x.reader(0, 0), 0);
    }

    private static void list() {
        CandleInch x = Check.of(pages(10, 5) + "reader r pace 1 eyes 0;table t draft 0;inch 10;");
        Check.due("list(0, 10)", x.list(0, 10), false);
        Check.due("list(0, -1)", x.list(0, -1), false);
        Check.due("list(1, 0)", x.list(1, 0), false);
        Check.due("list(-1, 0)", x.list(-1, 0), false);
        for (int p = 9; p >= 2; p--) {
            Check.due("list", x.list(0, p), true);
        }
        Check.due("there", x.list(0, 5), false);
        Check.due("8 there", x.list(0, 1), false);
        Check.due("status(2)", x.status(2), 6);
        for (int k = 0; k < 8; k++) {
            Check.due("listed", x.reader(0, 10 + k), 9 - k);
        }
        Check.due("listed", x.reader(0, 18), NONE);
        Check.due("night", x.night(), 2);
        Check.due("known", x.list(0, 9), false);
        Check.due("room again", x.list(0, 1), true);
        Check.due("first now", x.reader(0, 10), 7);
        Check.due("last now", x.reader(0, 16), 1);
    }

    private static void drop() {
        CandleInch x = Check.of(pages(3, 50) + "reader r pace 1 eyes 0;table t draft 0;inch 20;");
        Check.due("drop(1)", x.drop(1), NONE);
        Check.due("drop(-1)", x.drop(-1), NONE);
        Check.due("status(2)", x.status(2), 2);
        Check.due("drop an empty one", x.drop(0), 0);
        Check.due("is an act", x.has(10), 1);
        x.list(0, 0);
        x.list(0, 1);
        x.night();
        Check.due("left off", x.reader(0, 6), 20);
        Check.due("drop(0)", x.drop(0), 2);
        Check.due("list", x.reader(0, 7), 0);
        Check.due("left off", x.reader(0, 5), NONE);
        Check.due("into", x.reader(0, 6), 0);
        Check.due("undo", x.undo(), true);
        Check.due("list", x.reader(0, 7), 2);
        Check.due("left off", x.reader(0, 5), 0);
        Check.due("into", x.reader(0, 6), 20);
    }

    private static void tell() {
        CandleInch x = Check.of(ReadingTest.VAULT.replace("reader ann", "reader bob pace 1 eyes 1;reader ann"));
        x.list(0, 0);
        x.list(0, 1);
        x.list(0, 2);
        x.night();
        Check.due("tom knows", x.reader(0, 3), 7);
        int refused = x.status(2);
        Check.due("none such", x.tell(3, 1, 0), false);
        Check.due("none such", x.tell(-1, 1, 0), false);
        Check.due("none such", x.tell(0, 3, 0), false);
        Check.due("none such", x.tell(0, -1, 0), false);
        Check.due("none such", x.tell(0, 1, 4), false);
        Check.due("none such", x.tell(0, 1, -1), false);
        Check.due("himself", x.tell(0, 0, 0), false);
        Check.due("he has not read it", x.tell(0, 1, 3), false);
        Check.due("may not read it", x.tell(0, 1, 1), false);
        Check.due("refused", x.status(2) - refused, 9);
        Check.due("told", x.tell(0, 1, 0), true);
        Check.due("heard", x.reader(1, 4), 1);
        Check.due("not read", x.reader(1, 3), 0);
        Check.due("known already", x.tell(0, 1, 0), false);
        Check.due("heard is not read", x.tell(1, 2, 0), false);
        Check.due("told", x.tell(0, 1, 1), true);
        // lines 40, and he knows two alone
        Check.due("the test does not hold", x.tell(0, 1, 2), false);
        x.list(1, 3);
        x.night();
        Check.due("the test holds", x.tell(0, 1, 2), true);
        Check.due("heard", x.reader(1, 4), 7);
        Check.due("told back", x.tell(1, 0, 3), true);
        x.seat(2, 1);
        Check.due("elsewhere", x.tell(0, 2, 0), false);
        x.seat(0, 1);
        Check.due("at his table", x.tell(0, 2, 0), true);
        Check.due("undo", x.undo(), true);
        Check.due("undone", x.reader(2, 4), 0);
        CandleInch y = Check.of(pages(1, 5) + "reader r pace 1 eyes 0;reader s pace 1 eyes 0;table t draft 0;");
        y.list(0, 0);
        y.night();
        Check.due("without tells all may be told", y.tell(0, 1, 0), true);
    }

    private static void tellLeavesList() {
        CandleInch x = Check.of(pages(3, 30) + "reader r pace 3 eyes 0;reader s pace 1 eyes 0;table t draft 0;"
                + "burns 5;takes lines/pace;");
        x.list(0, 1);
        x.list(1, 0);
        x.list(1, 1);
        x.list(1, 2);
        x.night();
        Check.due("s left off", x.reader(1, 5), 0);
        Check.due("told", x.tell(0, 1, 1), true);
        Check.due("list", x.reader(1, 7), 2);
        Check.due("list", x.reader(1, 11), 2);
        Check.due("still left off", x.reader(1, 6), 10);
        x.list(0, 0);
        x.night();
        Check.due("further into it", x.reader(1, 6), 20);
        Check.due("told", x.tell(0, 1, 0), true);
        Check.due("left off no more", x.reader(1, 5), NONE);
        Check.due("minutes", x.reader(1, 6), 0);
        Check.due("list", x.reader(1, 7), 1);
        Check.due("list", x.reader(1, 10), 2);
    }

    private static void night() {
        CandleInch x = Check.of(ReadingTest.VAULT);
        x.list(0, 0);
        x.list(0, 1);
        x.list(1, 0);
        Check.due("night", x.night(), 3);
        Check.due("night", x.has(6), 1);
        Check.due("wax", x.has(7), 56 - 25);
        Check.due("read", x.reader(0, 3), 3);
        Check.due("read", x.reader(1, 3), 1);
        Check.due("list", x.reader(0, 7), 0);
        Check.due("known", x.has(9), 3);
        Check.due("night", x.night(), 0);
        Check.due("wax", x.has(7), 31 + 56);
        Check.due("acts", x.has(10), 5);
        // the inches of a night are those ahead of it
        CandleInch y = Check.of(pages(1, 5) + "reader r pace 1 eyes 0;table t draft 0;burns 10+night*10;");
        y.night();
        Check.due("wax of the first", y.has(7), 10);
        y.night();
        Check.due("wax of two", y.has(7), 30);
    }

    private static void nightLimit() {
        CandleInch x = Check.of(pages(1, 5) + "table t draft 0;");
        for (int k = 0; k < 33; k++) {
            Check.due("winter", x.winter(30), 0);
        }
        Check.due("990", x.has(6), 990);
        Check.due("beyond", x.winter(10), NONE);
        Check.due("up to it", x.winter(9), 0);
        Check.due("999", x.has(6), 999);
        Check.due("night", x.night(), NONE);
        Check.due("winter", x.winter(1), NONE);
        Check.due("status(3)", x.status(3), 3);
        x.undo();
        Check.due("990", x.has(6), 990);
        for (int k = 0; k < 9; k++) {
            Check.due("night", x.night(), 0);
        }
        Check.due("night", x.night(), NONE);
    }

    private static void winter() {
        CandleInch x = Check.of(pages(2, 25) + "reader r pace 1 eyes 0;table t draft 0;burns 13-draft;");
        x.list(0, 0);
        x.list(0, 1);
        Check.due("0", x.winter(0), NONE);
        Check.due("-1", x.winter(-1), NONE);
        Check.due("31", x.winter(31), NONE);
        Check.due("max", x.winter(Integer.MAX_VALUE), NONE);
        Check.due("status(3)", x.status(3), 4);
        Check.due("the seed stays", x.has(11), 1);
        // the only table is always drawn: 10 minutes each night
        Check.due("3", x.winter(3), 1);
        Check.due("night", x.has(6), 3);
        Check.due("left off", x.reader(0, 5), 1);
        Check.due("into", x.reader(0, 6), 5);
        Check.due("the draft is as told", x.table(0, 0), 0);
        Check.due("one act", x.has(10), 3);
        Check.due("kept", x.kept(0, 0), 3);
        x.undo();
        Check.due("night", x.has(6), 0);
        Check.due("left off", x.reader(0, 5), NONE);
        Check.due("30", x.winter(30), 2);
        CandleInch none = Check.of(pages(1, 1));
        Check.due("without tables", none.winter(1), NONE);
        // 9 and 3
        CandleInch y = Check.of("reader r pace 1 eyes 0;table t draft 9;burns draft*10;");
        y.winter(1);
        Check.due("12", y.has(7), 120);
    }

    private static void winterDraws() {
        CandleInch x = Check.of("reader r pace 1 eyes 0;table s draft 0;table t draft 0;table u draft 0;burns 100+draft*10;");
        long seed = 4711;
        x.seed(4711);
        int wax = 0;
        for (int k = 0; k < 40; k++) {
            seed = (1103515245L * seed + 12345) % (1L << 31);
            wax += seed / 64 % 3 == 0 ? 130 : 100;
            x.winter(1);
            Check.due("seed", x.has(11), seed);
            Check.due("wax", x.has(7), wax);
        }
        x.undo();
        Check.due("the seed is not undone", x.has(11), seed);
        x.seed(Integer.MAX_VALUE);
        x.winter(1);
        Check.due("seed", x.has(11), (1103515245L * Integer.MAX_VALUE + 12345) % (1L << 31));
    }

    private static void undo() {
        CandleInch x = Check.of(pages(8, 5) + "reader r pace 1 eyes 0;table t draft 0;table u draft 0;");
        Check.due("none", x.undo(), false);
        Check.due("status(4)", x.status(4), 1);
        for (int k = 0; k < 25; k++) {
            x.seat(0, (k + 1) % 2);
            Check.due("acts", x.has(10), Math.min(20, k + 1));
        }
        for (int k = 0; k < 20; k++) {
            Check.due("undo", x.undo(), true);
            Check.due("table", x.reader(0, 0), (k + 24) % 2);
        }
        Check.due("none left", x.undo(), false);
        Check.due("the first five stay", x.reader(0, 0), 1);
        Check.due("status(4)", x.status(4), 2);
        Check.due("refused acts are none", x.seat(0, 1), false);
        Check.due("acts", x.has(10), 0);
        // what was undone can be done again, and undone again
        x.list(0, 0);
        x.night();
        x.undo();
        Check.due("night", x.has(6), 0);
        Check.due("read", x.reader(0, 3), 0);
        Check.due("list", x.reader(0, 7), 1);
        Check.due("kept", x.has(8), 0);
        Check.due("wax", x.has(7), 0);
        Check.due("again", x.night(), 1);
        Check.due("kept", x.kept(0, 2), 0);
    }

    private static void undoKept() {
        StringBuilder text = new StringBuilder(pages(14, 1));
        for (int r = 0; r < 6; r++) {
            text.append("reader r").append((char) ('a' + r)).append(" pace 1 eyes 0;");
        }
        CandleInch x = Check.of(text + "table t draft 0;");
        for (int r = 0; r < 6; r++) {
            for (int p = 0; p < 8; p++) {
                x.list(r, p);
            }
        }
        Check.due("night", x.night(), 48);
        Check.due("kept", x.has(8), 48);
        for (int r = 0; r < 6; r++) {
            for (int p = 8; p < 14; p++) {
                x.list(r, p);
            }
        }
        Check.due("night", x.night(), 36);
        Check.due("the last 60 are told", x.has(8), 60);
        // 84 in all: the oldest that is told is the 24th, the first of reader 3
        Check.due("oldest", x.kept(0, 0), 1);
        Check.due("oldest", x.kept(0, 1), 3);
        Check.due("oldest", x.kept(0, 2), 0);
        Check.due("newest", x.kept(59, 0), 2);
        Check.due("newest", x.kept(59, 1), 5);
        Check.due("newest", x.kept(59, 2), 13);
        Check.due("none such", x.kept(60, 0), NONE);
        x.undo();
        Check.due("kept", x.has(8), 48);
        Check.due("oldest is there again", x.kept(0, 1), 0);
        Check.due("known", x.has(9), 48);
    }

    private static void seed() {
        CandleInch x = new CandleInch();
        Check.due("seed(-1)", x.seed(-1), false);
        Check.due("seed(min)", x.seed(Integer.MIN_VALUE), false);
        Check.due("status(5)", x.status(5), 2);
        Check.due("1", x.has(11), 1);
        Check.due("seed(0)", x.seed(0), true);
        Check.due("0", x.has(11), 0);
        Check.due("seed(max)", x.seed(Integer.MAX_VALUE), true);
        Check.due("max", x.has(11), Integer.MAX_VALUE);
        Check.due("no act", x.has(10), 0);
    }

    private static void kept() {
        CandleInch x = Check.of(ReadingTest.VAULT);
        Check.due("none", x.kept(0, 0), NONE);
        x.list(0, 2);
        x.list(0, 1);
        x.list(0, 0);
        x.list(1, 0);
        x.night();
        x.list(1, 3);
        x.night();
        int[][] due = {{1, 0, 0}, {1, 0, 1}, {1, 0, 2}, {1, 1, 0}, {2, 1, 3}};
        Check.due("how many", x.has(8), 5);
        for (int k = 0; k < 5; k++) {
            for (int what = 0; what < 3; what++) {
                Check.due("kept(" + k + ", " + what + ")", x.kept(k, what), due[k][what]);
            }
        }
        Check.due("kept(0, 3)", x.kept(0, 3), NONE);
        Check.due("kept(0, -1)", x.kept(0, -1), NONE);
        Check.due("kept(-1, 0)", x.kept(-1, 0), NONE);
        Check.due("kept(5, 0)", x.kept(5, 0), NONE);
    }

    private static void waxLimit() {
        CandleInch x = Check.of("reader r pace 1 eyes 0;table t draft 0;burns 499;");
        x.winter(20);
        Check.due("9980", x.has(7), 9980);
        x.night();
        Check.due("9999 at most", x.has(7), 9999);
        x.night();
        Check.due("9999 at most", x.has(7), 9999);
        x.undo();
        x.undo();
        Check.due("9980", x.has(7), 9980);
    }
}
