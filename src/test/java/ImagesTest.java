/** Promises 31 to 34: images, refusals. */
public final class ImagesTest {
    private static final int NONE = CandleInch.NONE;
    private static final String TEXT = "book b;page p of b lines 30;page q of b lines 5;page s of b lines 5;"
            + "reader ra pace 1 eyes 0;reader rb pace 1 eyes 0;table t draft 0;table u draft 0;burns 20;";
    /** Night 258, wax 9999; ra at u has read q, heard of s, left p off; rb has q, s listed. */
    private static final int[] GOOD = {1, 2, 39, 15, 1, 0, 2, 0, 4, 1, 1, 243, 1, 0, 0, 0, 0, 0, 0, 0, 0, 0, 2, 1, 2, 0};

    public static void main(String[] args) {
        image();
        octet();
        there();
        on();
        onKeeps();
        bad();
        status();
        Check.close("ImagesTest");
    }

    private static void image() {
        CandleInch x = new CandleInch();
        Check.due("image of nothing", x.image(), 5);
        int c = 83;
        for (int k = 0; k < 4; k++) {
            Check.due("octet", x.octet(k), 0);
            c = 5 * c % 251;
        }
        Check.due("last", x.octet(4), c);
        CandleInch y = Check.of(TEXT);
        Check.due("image", y.image(), 4 + 9 + 9 + 1);
        y.list(0, 2);
        y.list(0, 0);
        y.list(1, 1);
        Check.due("image", y.image(), 4 + 11 + 10 + 1);
        y.night();
        y.tell(0, 1, 2);
        y.seat(1, 1);
        // ra: s in 5 minutes, then p without an end until 40; rb: q
        y.image();
        int[] due = Check.checked(0, 1, 0, 5, 0, 0, 5, 0, 0, 0, 0, 0, 0, 1, 0, 2, 0, 4, 0, 0, 0, 0, 0);
        for (int k = 0; k < due.length; k++) {
            Check.due("octet(" + k + ")", y.octet(k), due[k]);
        }
        Check.due("no act", y.has(10), 6);
    }

    private static void octet() {
        CandleInch x = new CandleInch();
        Check.due("none yet", x.octet(0), NONE);
        int n = x.image();
        Check.due("octet(-1)", x.octet(-1), NONE);
        Check.due("octet(n)", x.octet(n), NONE);
        Check.due("octet(min)", x.octet(Integer.MIN_VALUE), NONE);
        Check.due("octet(max)", x.octet(Integer.MAX_VALUE), NONE);
        Check.tell(x, TEXT);
        Check.due("it is the latest image still", x.octet(n), NONE);
        x.night();
        Check.due("as it was written", x.octet(1), 0);
        x.image();
        Check.due("anew", x.octet(1), 1);
    }

    /** What an image tells comes back. */
    private static void there() {
        CandleInch x = Check.of(TEXT);
        x.list(0, 0);
        x.list(1, 2);
        x.list(1, 1);
        x.seat(0, 1);
        x.night();
        int[] image = Check.imageOf(x);
        int[] ra = ReadingTest.readerRow(x, 0);
        int[] rb = ReadingTest.readerRow(x, 1);
        x.drop(0);
        x.winter(7);
        Check.due("on", Check.on(x, image), true);
        for (int k = 0; k < 18; k++) {
            Check.due("ra " + k, x.reader(0, k), ra[k]);
            Check.due("rb " + k, x.reader(1, k), rb[k]);
        }
        Check.due("night", x.has(6), 1);
        int[] again = Check.imageOf(x);
        Check.due("as long", again.length, image.length);
        for (int k = 0; k < image.length; k++) {
            Check.due("octet", again[k], image[k]);
        }
    }

    private static void on() {
        CandleInch x = Check.of(TEXT);
        Check.due("on", Check.on(x, Check.checked(GOOD.clone())), true);
        Check.due("night", x.has(6), 258);
        Check.due("wax", x.has(7), 9999);
        int[] ra = {1, 1, 0, 2, 4, 0, 499, 1, NONE, NONE, 0, NONE};
        int[] rb = {0, 1, 0, 0, 0, NONE, 0, 2, NONE, NONE, 1, 2};
        for (int k = 0; k < 12; k++) {
            Check.due("ra " + k, x.reader(0, k), ra[k]);
            Check.due("rb " + k, x.reader(1, k), rb[k]);
        }
        Check.due("known", x.has(9), 2);
        CandleInch y = new CandleInch();
        Check.due("of nothing", Check.on(y, Check.checked(3, 231, 0, 0, 0)), true);
        Check.due("night", y.has(6), 999);
        Check.due("no more", y.night(), NONE);
    }

    private static void onKeeps() {
        CandleInch x = Check.of(TEXT);
        x.seed(99);
        x.list(1, 1);
        x.night();
        x.image();
        Check.due("kept", x.has(8), 1);
        Check.due("refused", Check.on(x, 1, 2, 3), false);
        Check.due("all stays", x.has(8), 1);
        Check.due("all stays", x.has(10), 2);
        Check.due("all stays", x.has(6), 1);
        Check.due("the tape is gone", x.end(1), false);
        Check.due("on", Check.on(x, Check.checked(GOOD.clone())), true);
        Check.due("the tape is gone", x.end(1), false);
        Check.due("nothing is kept", x.has(8), 0);
        Check.due("nothing is kept", x.kept(0, 0), NONE);
        Check.due("no act", x.has(10), 0);
        Check.due("no act", x.undo(), false);
        Check.due("the seed", x.has(11), 99);
        Check.due("the library", x.has(1), 3);
        Check.due("the image", x.octet(1), 1);
        Check.due("status(5)", x.status(5), 1);
    }

    private static void dueBad(String why, int... bytes) {
        CandleInch x = Check.of(TEXT);
        x.list(0, 1);
        Check.due(why, Check.on(x, bytes), false);
        Check.due(why + ": status(5)", x.status(5), 1);
        Check.due(why + ": all stays", x.reader(0, 7), 1);
        Check.due(why + ": all stays", x.has(10), 1);
    }

    private static void dueBadAt(String why, int at, int... values) {
        int[] bytes = GOOD.clone();
        for (int k = 0; k < values.length; k++) {
            bytes[at + k] = values[k];
        }
        dueBad(why, Check.checked(bytes));
    }

    private static void bad() {
        dueBad("empty");
        int[] last = Check.checked(GOOD.clone());
        last[last.length - 1] ^= 1;
        dueBad("the last byte", last);
        dueBad("too short", Check.checked(java.util.Arrays.copyOf(GOOD, GOOD.length - 1)));
        dueBad("too long", Check.checked(java.util.Arrays.copyOf(GOOD, GOOD.length + 1)));
        for (int n = 1; n < GOOD.length; n++) {
            dueBad("cut at " + n, Check.checked(java.util.Arrays.copyOf(GOOD, n)));
        }
        dueBadAt("night 1000", 0, 3, 232);
        dueBadAt("wax 10000", 2, 39, 16);
        dueBadAt("table", 4, 2);
        dueBadAt("read", 5, 0, 8);
        dueBadAt("read", 5, 1, 2);
        dueBadAt("heard", 7, 0, 12);
        dueBadAt("heard", 7, 128, 4);
        dueBadAt("read and heard of", 7, 0, 6);
        dueBadAt("left off, not listed", 9, 2);
        dueBadAt("left off, no page", 9, 4);
        dueBadAt("left off, no page", 9, 255);
        dueBadAt("500 minutes", 10, 1, 244);
        dueBadAt("0 minutes", 10, 0, 0);
        dueBadAt("minutes without", 9, 0);
        dueBadAt("minutes without", 19, 0, 1);
        dueBadAt("listed and known", 13, 1);
        dueBadAt("listed and heard of", 13, 2);
        dueBadAt("listed, no page", 13, 3);
        dueBadAt("listed twice", 23, 1, 1);
        dueBadAt("list too long", 22, 3);
        dueBadAt("list too short", 22, 1);
        dueBadAt("list too long", 22, 255);
        int[] fine = GOOD.clone();
        fine[10] = 0;
        fine[11] = 1;
        Check.due("1 minute", Check.on(Check.of(TEXT), Check.checked(fine)), true);
        StringBuilder text = new StringBuilder("book b;");
        for (int k = 0; k < 9; k++) {
            text.append("page p").append((char) ('a' + k)).append(" of b lines 1;");
        }
        text.append("reader r pace 1 eyes 0;table t draft 0;");
        Check.due("8 listed", Check.on(Check.of(text.toString()),
                Check.checked(0, 0, 0, 0, 0, 0, 0, 0, 0, 0, 0, 0, 8, 0, 1, 2, 3, 4, 5, 6, 7, 0)), true);
        Check.due("9 listed", Check.on(Check.of(text.toString()),
                Check.checked(0, 0, 0, 0, 0, 0, 0, 0, 0, 0, 0, 0, 9, 0, 1, 2, 3, 4, 5, 6, 7, 8, 0)), false);
        Check.due("listed again behind another", Check.on(Check.of(text.toString()),
                Check.checked(0, 0, 0, 0, 0, 0, 0, 0, 0, 0, 0, 0, 3, 1, 2, 1, 0)), false);
        Check.due("known, listed behind another", Check.on(Check.of(text.toString()),
                Check.checked(0, 0, 0, 0, 0, 0, 1, 0, 0, 0, 0, 0, 2, 1, 0, 0)), false);
        Check.due("two bytes of bits", Check.on(Check.of(text.toString()),
                Check.checked(0, 0, 0, 0, 0, 1, 255, 0, 0, 0, 0, 0, 0, 0)), true);
    }

    private static void status() {
        CandleInch x = Check.of(TEXT);
        x.end(5);
        x.end(-1);
        Check.tell(x, "x");
        x.seat(9, 9);
        x.list(9, 9);
        x.drop(9);
        x.tell(9, 9, 9);
        x.winter(0);
        x.undo();
        x.undo();
        x.seed(-1);
        x.on();
        int[] due = {2, 1, 4, 1, 2, 2};
        for (int k = 0; k < 6; k++) {
            Check.due("status(" + k + ")", x.status(k), due[k]);
        }
        Check.due("status(6)", x.status(6), NONE);
        Check.due("status(-1)", x.status(-1), NONE);
        // what is asked in vain is not refused
        x.page(99, 99);
        x.work(99, 99, 99);
        x.kept(99, 99);
        x.wax(0, -1, 0);
        x.octet(-1);
        Check.due("NONE", CandleInch.NONE, -1);
        for (int k = 0; k < 6; k++) {
            Check.due("status(" + k + ") still", x.status(k), due[k]);
        }
    }
}
