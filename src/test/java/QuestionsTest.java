/** Promises 24 to 30: what can be asked of the readers. */
public final class QuestionsTest {
    private static final int NONE = CandleInch.NONE;

    public static void main(String[] args) {
        work();
        workBehindKnown();
        scholar();
        shared();
        sharedLimits();
        seated();
        seatedByAll();
        seatedByTrying();
        most();
        wax();
        index();
        anew();
        Check.close("QuestionsTest");
    }

    private static void dueWork(CandleInch x, int reader, int question, int work, int nights, int bits) {
        String call = "work(" + reader + ", " + question + ", ";
        Check.due(call + "0)", x.work(reader, question, 0), work);
        Check.due(call + "1)", x.work(reader, question, 1), nights);
        Check.due(call + "2)", x.work(reader, question, 2), bits);
    }

    private static void work() {
        CandleInch x = Check.of(ReadingTest.VAULT);
        dueWork(x, 0, 0, 0, 0, 0);
        dueWork(x, 0, 1, 10, 1, 1);
        dueWork(x, 0, 4, 45, 1, 7);
        dueWork(x, 0, 15, 50, 1, 15);
        dueWork(x, 1, 4, 96, 2, 7);
        dueWork(x, 1, 15, 109, 2, 15);
        dueWork(x, 2, 1, NONE, NONE, NONE);
        dueWork(x, -1, 1, NONE, NONE, NONE);
        dueWork(x, 0, 16, NONE, NONE, NONE);
        dueWork(x, 0, -1, NONE, NONE, NONE);
        Check.due("work(0, 1, 3)", x.work(0, 1, 3), NONE);
        Check.due("work(0, 1, -1)", x.work(0, 1, -1), NONE);
        x.list(0, 0);
        x.night();
        dueWork(x, 0, 1, 0, 0, 0);
        dueWork(x, 0, 5, 35, 1, 6);
        // just so many lights are enough, and what is left off counts for nothing
        CandleInch y = Check.of("book b;page p of b lines 60;reader r pace 1 eyes 0;table t draft 0;burns 20;");
        dueWork(y, 0, 1, 60, 3, 1);
        y.list(0, 0);
        y.night();
        dueWork(y, 0, 1, 60, 3, 1);
        CandleInch z = Check.of("book b;page p of b lines 61;reader r pace 1 eyes 0;table t draft 0;burns 20-20*night;");
        dueWork(z, 0, 1, 61, 4, 1);
        z.night();
        dueWork(z, 0, 1, 61, NONE, 1);
        dueWork(z, 0, 0, 0, 0, 0);
    }

    private static void workBehindKnown() {
        CandleInch x = Check.of("book b;page p of b lines 1;page q of b lines 2;page s of b lines 4;needs q p;needs s q;"
                + "reader r pace 1 eyes 0;table t draft 0;inch 10;");
        // an image may tell that q is known and p is not: s needs q, and nothing behind it
        Check.due("on", Check.on(x, Check.checked(0, 0, 0, 0, 0, 0, 2, 0, 0, 0, 0, 0, 0, 0)), true);
        dueWork(x, 0, 4, 4, 1, 4);
        dueWork(x, 0, 6, 4, 1, 4);
        dueWork(x, 0, 7, 5, 1, 5);
        Check.due("most", x.most(0, 9, 1), 5);
    }

    private static void scholar() {
        CandleInch x = Check.of(ReadingTest.VAULT);
        Check.due("like ones", x.scholar(0), 0);
        Check.due("scholar(4)", x.scholar(4), 0);
        x.seat(0, 1);
        // tom has 19 minutes at the door, ann 29 at the nook
        Check.due("scholar(1)", x.scholar(1), 0);
        Check.due("scholar(2)", x.scholar(2), 0);
        Check.due("scholar(16)", x.scholar(16), NONE);
        Check.due("scholar(-1)", x.scholar(-1), NONE);
        CandleInch y = Check.of("book b;page p of b lines 60;reader q pace 1 eyes 0;reader r pace 1 eyes 1;reader s pace 1 eyes 2;"
                + "table t draft 0;table u draft 1;table v draft 2;burns draft*20;");
        Check.due("nobody has light", y.scholar(1), NONE);
        y.seat(1, 1);
        Check.due("he has light", y.scholar(1), 1);
        y.seat(2, 2);
        Check.due("he needs fewer", y.scholar(1), 2);
        y.seat(0, 2);
        Check.due("like ones: the first", y.scholar(1), 0);
        Check.due("no readers", Check.of("book b;page p of b lines 60;").scholar(1), NONE);
    }

    private static void dueShared(CandleInch x, int question, int nights, int minutes, int... readers) {
        Check.due("shared(" + question + ", NONE)", x.shared(question, NONE), nights);
        Check.due("shared(" + question + ", 20)", x.shared(question, 20), minutes);
        int at = 0;
        for (int p = 0; p < 14; p++) {
            boolean ofIt = question > 0 && (question >> p & 1) != 0 && at < readers.length;
            Check.due("shared(" + question + ", " + p + ")", x.shared(question, p), ofIt ? readers[at++] : NONE);
        }
    }

    private static void shared() {
        CandleInch x = Check.of(ReadingTest.VAULT);
        dueShared(x, 12, 1, 50, 0, 0);
        Check.due("k", x.shared(12, 19), NONE);
        Check.due("k", x.shared(12, 21), NONE);
        Check.due("k", x.shared(12, -2), NONE);
        Check.due("k", x.shared(12, 32 + 2), NONE);
        dueShared(x, 0, NONE, NONE);
        dueShared(x, 16, NONE, NONE);
        dueShared(x, -1, NONE, NONE);
        // 10 minutes each, 10 of light each: by three in two nights, or one page for each
        String four = "book b;page p of b lines 10;page q of b lines 10;page s of b lines 10;page u of b lines 10;";
        String readers = "reader ra pace 1 eyes 0;reader rb pace 1 eyes 0;reader rc pace 1 eyes 0;reader rd pace 1 eyes 0;";
        CandleInch y = Check.of(four + readers + "table ta draft 0;table tb draft 0;table tc draft 0;table td draft 0;burns 10;");
        y.seat(1, 1);
        y.seat(2, 2);
        y.seat(3, 3);
        dueShared(y, 7, 1, 30, 0, 1, 2);
        dueShared(y, 15, 2, 40, 0, 0, 1, 1);
        dueShared(y, 9, 1, 20, 0, 1);
        // what both pages need is read by both, or by one
        CandleInch z = Check.of(four + "needs q p;needs s p;" + readers + "table ta draft 0;burns 10;");
        dueShared(z, 6, 1, 30, 0, 0);
        // a page known already costs nothing
        y.list(1, 0);
        y.night();
        dueShared(y, 1, 0, 0, 1);
        dueShared(y, 7, 1, 20, 1, 0, 1);
    }

    private static void sharedLimits() {
        StringBuilder text = new StringBuilder("book b;");
        for (int k = 0; k < 9; k++) {
            text.append("page p").append((char) ('a' + k)).append(" of b lines 10;");
        }
        CandleInch x = Check.of(text + "reader r pace 1 eyes 0;table t draft 0;burns 10;");
        Check.due("8", x.shared(255, NONE), 8);
        Check.due("8", x.shared(510, 8), 0);
        Check.due("9", x.shared(511, NONE), NONE);
        Check.due("no readers", Check.of(text.toString()).shared(1, NONE), NONE);
        CandleInch y = Check.of(text + "reader r pace 1 eyes 0;reader s pace 1 eyes 0;reader t pace 1 eyes 0;reader u pace 1 eyes 9;"
                + "table v draft 0;table w draft 1;burns 10*draft;");
        Check.due("no light", y.shared(3, NONE), NONE);
        Check.due("no light", y.shared(3, 0), NONE);
        Check.due("no light", y.shared(3, 20), NONE);
        y.seat(3, 1);
        Check.due("the fourth does not share", y.shared(3, NONE), NONE);
        y.seat(2, 1);
        Check.due("the third does", y.shared(3, NONE), 1);
        Check.due("the third does", y.shared(3, 1), 2);
    }

    private static void seated() {
        CandleInch x = Check.of(ReadingTest.VAULT);
        Check.due("pages", x.seated(NONE), 0);
        Check.due("tables", x.seated(0), 0);
        Check.due("tables", x.seated(1), 0);
        Check.due("wax", x.seated(20), 56);
        Check.due("others", x.seated(2), NONE);
        Check.due("others", x.seated(-2), NONE);
        Check.due("others", x.seated(19), NONE);
        Check.due("others", x.seated(21), NONE);
        Check.due("without readers", Check.of("table t draft 0;").seated(NONE), NONE);
        // alone at a table one burns longer: the first by readers, by tables
        CandleInch y = Check.of("book b;page p of b lines 10;reader r pace 1 eyes 0;reader s pace 1 eyes 0;"
                + "table t draft 0;table u draft 0;burns 20/sitting/sitting;");
        y.list(0, 0);
        y.list(1, 0);
        Check.due("pages", y.seated(NONE), 2);
        Check.due("table of r", y.seated(0), 0);
        Check.due("table of s", y.seated(1), 1);
        Check.due("wax", y.seated(20), 20);
        Check.due("nobody has moved", y.reader(1, 0), 0);
        // what is left off counts for nothing
        CandleInch z = Check.of("book b;page p of b lines 30;reader r pace 1 eyes 0;table t draft 0;burns 20;");
        z.list(0, 0);
        z.night();
        Check.due("tonight", z.whole(0), 1);
        Check.due("seated", z.seated(NONE), 0);
        Check.due("wax", z.seated(20), 0);
    }

    private static void seatedByAll() {
        StringBuilder text = new StringBuilder("book b;page p of b lines 10;");
        for (int r = 0; r < 6; r++) {
            text.append("reader r").append((char) ('a' + r)).append(" pace 1 eyes 0;");
        }
        CandleInch x = Check.of(text + "table s draft 0;table t draft 1;table u draft 2;table v draft 3;table w draft 4;"
                + "burns draft/4*max(0,sitting-5)*500;takes 500;");
        for (int r = 0; r < 6; r++) {
            x.list(r, 0);
        }
        Check.due("pages", x.seated(NONE), 6);
        Check.due("wax", x.seated(20), 2500);
        for (int r = 0; r < 6; r++) {
            Check.due("all at the last table", x.seated(r), 4);
        }
    }

    /** All seats are tried by the acts themselves. */
    private static void seatedByTrying() {
        CandleInch x = Check.of("book b;page p of b lines 20;page q of b lines 12;page s of b lines 31;page u of b lines 17;needs s p;"
                + "reader ra pace 2 eyes 3;reader rb pace 3 eyes 5;reader rc pace 1 eyes 0;reader rd pace 4 eyes 9;"
                + "table ta draft 0;table tb draft 3;table tc draft 5;inch 18;burns inch-draft*2-sitting*sitting/2+eyes%2;"
                + "takes lines/pace+draft+sitting+knows;");
        int[][] lists = {{0, 2}, {3, 1, 2}, {0, 1}, {2, 3, 0, 1}};
        for (int r = 0; r < 4; r++) {
            for (int p : lists[r]) {
                x.list(r, p);
            }
        }
        int bestPages = NONE;
        int bestWax = NONE;
        int bestWay = 0;
        int[] sits = new int[4];
        for (int way = 0; way < 81; way++) {
            int[] seat = {way / 27, way / 9 % 3, way / 3 % 3, way % 3};
            for (int r = 0; r < 4; r++) {
                // an object is good for 512 calls
                if (seat[r] != sits[r]) {
                    x.seat(r, seat[r]);
                    sits[r] = seat[r];
                }
            }
            int pages = x.whole(0);
            int wax = x.whole(2);
            if (pages > bestPages || (pages == bestPages && wax > bestWax)) {
                bestPages = pages;
                bestWax = wax;
                bestWay = way;
            }
        }
        Check.due("pages", x.seated(NONE), bestPages);
        Check.due("wax", x.seated(20), bestWax);
        Check.due("ra", x.seated(0), bestWay / 27);
        Check.due("rb", x.seated(1), bestWay / 9 % 3);
        Check.due("rc", x.seated(2), bestWay / 3 % 3);
        Check.due("rd", x.seated(3), bestWay % 3);
    }

    private static void dueMost(CandleInch x, int reader, int n, int count, int bits, int minutes) {
        String call = "most(" + reader + ", " + n + ", ";
        Check.due(call + "0)", x.most(reader, n, 0), count);
        Check.due(call + "1)", x.most(reader, n, 1), bits);
        Check.due(call + "2)", x.most(reader, n, 2), minutes);
    }

    private static void most() {
        CandleInch x = Check.of(ReadingTest.VAULT);
        dueMost(x, 0, 0, 0, 0, 0);
        dueMost(x, 0, 1, 4, 15, 50);
        dueMost(x, 1, 1, 2, 9, 36);
        dueMost(x, 1, 2, 4, 15, 109);
        dueMost(x, 1, 99, 4, 15, 109);
        dueMost(x, 1, 100, NONE, NONE, NONE);
        dueMost(x, 1, -1, NONE, NONE, NONE);
        dueMost(x, 2, 1, NONE, NONE, NONE);
        dueMost(x, -1, 1, NONE, NONE, NONE);
        Check.due("most(0, 1, 3)", x.most(0, 1, 3), NONE);
        Check.due("most(0, 1, -1)", x.most(0, 1, -1), NONE);
        x.list(1, 0);
        x.night();
        dueMost(x, 1, 1, 2, 10, 43);
        // the most pages, then the least minutes, then the least bits
        CandleInch y = Check.of("book b;page p of b lines 9;page q of b lines 5;page s of b lines 4;page u of b lines 5;page v of b lines 9;"
                + "reader r pace 1 eyes 0;table t draft 0;burns 10;");
        dueMost(y, 0, 1, 2, 6, 9);
        dueMost(y, 0, 2, 3, 14, 14);
        CandleInch z = Check.of("book b;page p of b lines 5;page q of b lines 5;page s of b lines 5;"
                + "reader r pace 1 eyes 0;table t draft 0;burns 10;");
        dueMost(z, 0, 1, 2, 3, 10);
        CandleInch none = Check.of("reader r pace 1 eyes 0;table t draft 0;burns 0;");
        dueMost(none, 0, 5, 0, 0, 0);
    }

    private static void dueWax(CandleInch x, int reader, int minutes, int count, int all, int some) {
        String call = "wax(" + reader + ", " + minutes + ", ";
        Check.due(call + "0)", x.wax(reader, minutes, 0), count);
        Check.due(call + "1)", x.wax(reader, minutes, 1), all);
        Check.due(call + "2)", x.wax(reader, minutes, 2), some);
    }

    private static void wax() {
        CandleInch x = Check.of(ReadingTest.VAULT);
        dueWax(x, 0, 0, 1, 0, 0);
        dueWax(x, 0, 10, 1, 1, 1);
        dueWax(x, 0, 15, 1, 9, 9);
        dueWax(x, 0, 25, 1, 3, 3);
        dueWax(x, 0, 5, 0, 0, 0);
        dueWax(x, 0, 50, 1, 15, 15);
        dueWax(x, 0, 51, 0, 0, 0);
        dueWax(x, 0, Integer.MAX_VALUE, 0, 0, 0);
        dueWax(x, 0, -1, NONE, NONE, NONE);
        dueWax(x, 2, 0, NONE, NONE, NONE);
        dueWax(x, -1, 0, NONE, NONE, NONE);
        Check.due("wax(0, 0, 3)", x.wax(0, 0, 3), NONE);
        Check.due("wax(0, 0, -1)", x.wax(0, 0, -1), NONE);
        CandleInch y = Check.of("book b;page p of b lines 2;page q of b lines 3;page s of b lines 3;page u of b lines 5;needs u p;"
                + "reader r pace 1 eyes 0;table t draft 0;takes lines+100*knows;burns 30;");
        dueWax(y, 0, 5, 2, 1, 7);
        dueWax(y, 0, 7, 1, 9, 9);
        dueWax(y, 0, 8, 1, 7, 7);
        dueWax(y, 0, 3, 2, 0, 6);
        // as if he knew none
        y.list(0, 0);
        y.night();
        Check.due("takes", y.takes(0, 1), 103);
        dueWax(y, 0, 5, 2, 1, 7);
        StringBuilder text = new StringBuilder("book b;");
        for (int k = 0; k < 14; k++) {
            text.append("page p").append((char) ('a' + k)).append(" of b lines 1;");
        }
        CandleInch z = Check.of(text + "reader r pace 1 eyes 0;table t draft 0;");
        dueWax(z, 0, 7, 3432, 0, 16383);
        dueWax(z, 0, 14, 1, 16383, 16383);
        dueMost(z, 0, 1, 14, 16383, 14);
    }

    private static void index() {
        CandleInch x = Check.of(ReadingTest.VAULT);
        Check.due("index(4, 0)", x.index(4, 0), 1);
        Check.due("index(4, 1)", x.index(4, 1), 78);
        Check.due("index(6, 0)", x.index(6, 0), 0);
        Check.due("index(6, 1)", x.index(6, 1), 33);
        Check.due("of it", x.index(7, 0), NONE);
        Check.due("of it", x.index(7, 1), NONE);
        Check.due("nothing to do", x.index(0, 0), NONE);
        Check.due("what", x.index(4, 2), NONE);
        Check.due("what", x.index(4, -1), NONE);
        Check.due("question", x.index(16, 0), NONE);
        Check.due("question", x.index(-1, 0), NONE);
        // like ones: the first; another way to what is needed leaves it needed
        CandleInch y = Check.of("book b;page p of b lines 4;page q of b lines 4;page s of b lines 4;needs s p;needs s q;"
                + "reader r pace 1 eyes 0;table t draft 0;");
        Check.due("like ones", y.index(4, 0), 0);
        Check.due("like ones", y.index(4, 1), 4);
        CandleInch z = Check.of("book b;page p of b lines 4;page q of b lines 4;page s of b lines 5;page u of b lines 4;"
                + "needs q p;needs s p;needs u q;needs u s;reader r pace 1 eyes 0;table t draft 0;");
        Check.due("s", z.index(8, 0), 2);
        Check.due("s", z.index(8, 1), 5);
        z.list(0, 0);
        z.list(0, 2);
        z.night();
        Check.due("known ones cost nothing", z.index(8, 0), 1);
        Check.due("no readers", Check.of("book b;page p of b lines 4;page q of b lines 4;needs q p;").index(2, 0), NONE);
    }

    /** Each act may change the answers, so none may be kept beyond it. */
    private static void anew() {
        CandleInch x = Check.of("book b;page p of b lines 10;page q of b lines 20;reader r pace 1 eyes 0;table t draft 0;table u draft 5;"
                + "burns 12-draft;takes lines+draft+night;");
        x.list(0, 0);
        dueMost(x, 0, 1, 1, 1, 10);
        dueWax(x, 0, 10, 1, 1, 1);
        dueShared(x, 3, 3, 30, 0, 0);
        Check.due("seated", x.seated(NONE), 1);
        x.seat(0, 1);
        dueMost(x, 0, 1, 0, 0, 0);
        dueWax(x, 0, 10, 0, 0, 0);
        dueShared(x, 3, 6, 40, 0, 0);
        x.drop(0);
        Check.due("seated", x.seated(NONE), 0);
        x.undo();
        Check.due("seated", x.seated(NONE), 1);
        x.undo();
        dueMost(x, 0, 1, 1, 1, 10);
        x.night();
        dueMost(x, 0, 1, 0, 0, 0);
        Check.due("seated", x.seated(NONE), 0);
        x.undo();
        int[] image = Check.imageOf(x);
        x.night();
        dueShared(x, 3, 2, 21, 0, 0);
        Check.on(x, image);
        dueShared(x, 3, 3, 30, 0, 0);
        Check.due("seated", x.seated(NONE), 1);
        Check.tell(x, "book b;page p of b lines 7;reader r pace 1 eyes 0;table t draft 0;inch 10;");
        dueMost(x, 0, 1, 1, 1, 7);
        Check.due("seated", x.seated(NONE), 0);
    }
}
