import java.util.Arrays;

/** Promises 31 to 34 and AN IMAGE of the Terms: each sentence that names a boundary, on both its sides. */
public final class ImagesEdgesTest {
    private static final int NONE = CandleInch.NONE;
    private static final int[] FAR = {Integer.MIN_VALUE, -2, -1, 107, 1 << 16, Integer.MAX_VALUE};
    /** Where a reader's fields stand in an image that has him first. */
    private static final int TABLE = 4;
    private static final int READ = 5;
    private static final int HEARD = 7;
    private static final int LEFT = 9;
    private static final int INTO = 10;
    private static final int LISTED = 12;

    public static void main(String[] args) {
        imageOfNothing();
        imageOfAll();
        imageBothBytes();
        imageLastByte();
        imageIsTheLatest();
        octetNoneSuch();
        tapeGoes();
        nightAndWax();
        tablesThatThereAre();
        pagesThatThereAre();
        noneBothReadAndHeard();
        listsOfEightUnlikeOnes();
        listedNotKnown();
        leftOffIsListed();
        minutesIntoIt();
        lastByteOfIt();
        asLongAsItIs();
        ofThisLibrary();
        nothingIsKept();
        whatStays();
        eachReader();
        statusEach();
        statusNoneSuch();
        farValuesEverywhere();
        Check.close("ImagesEdgesTest");
    }

    private static String text(int pages, int readers, int tables) {
        return Check.pages(pages, 20) + Check.readers(readers) + Check.tables(tables) + "inch 10;";
    }

    /** "how many bytes": four, nine and the list for each reader, and the last one. */
    private static void imageOfNothing() {
        Check.due("image", new CandleInch().image(), 5);
        for (int readers = 0; readers <= 6; readers++) {
            Check.due("image", Check.of(text(14, readers, 1)).image(), 5 + 9 * readers);
        }
        CandleInch x = Check.of(text(14, 1, 1));
        for (int k = 1; k <= 8; k++) {
            x.list(0, 14 - k);
            Check.due("image", x.image(), 14 + k);
            Check.due("how many are on his list", x.octet(LISTED), k);
            Check.due("the last of these", x.octet(LISTED + k), 14 - k);
        }
    }

    /** All readers with lists of eight: 107 bytes, each of which can be told and taken. */
    private static void imageOfAll() {
        CandleInch x = Check.of(text(14, 6, 5));
        for (int r = 0; r < 6; r++) {
            for (int p = 0; p < 8; p++) {
                x.list(r, 13 - r - p);
            }
        }
        int[] image = Check.imageOf(x);
        Check.due("bytes", image.length, 107);
        for (int r = 0; r < 6; r++) {
            Check.due("how many", image[4 + 17 * r + 8], 8);
            for (int k = 0; k < 8; k++) {
                Check.due("listed", image[4 + 17 * r + 9 + k], 13 - r - k);
            }
        }
        Check.due("the last byte", image[106], Check.checked(image.clone())[106]);
        CandleInch y = Check.of(text(14, 6, 5));
        Check.due("on", Check.on(y, image), true);
        for (int r = 0; r < 6; r++) {
            for (int k = 0; k < 8; k++) {
                Check.due("listed", y.reader(r, 10 + k), 13 - r - k);
            }
        }
    }

    /** "two bytes, the higher first": each field beyond 255. */
    private static void imageBothBytes() {
        int[] image = {3, 231, 39, 15, 1, 0x2a, 0xaa, 0x15, 0x45, 5, 1, 243, 1, 4, 0};
        CandleInch x = Check.of(text(14, 1, 2));
        Check.due("on", Check.on(x, Check.checked(image)), true);
        Check.due("night", x.has(6), 999);
        Check.due("wax", x.has(7), 9999);
        Check.due("table", x.reader(0, 0), 1);
        Check.due("read", x.reader(0, 3), 0x2aaa);
        Check.due("heard of", x.reader(0, 4), 0x1545);
        Check.due("left off", x.reader(0, 5), 4);
        Check.due("into it", x.reader(0, 6), 499);
        int[] written = Check.imageOf(x);
        Check.due("as long", written.length, image.length);
        for (int k = 0; k < image.length; k++) {
            Check.due("octet(" + k + ")", written[k], image[k]);
        }
        // 255 and 256 of each field
        for (int value = 254; value <= 257; value++) {
            int[] one = image.clone();
            for (int at : new int[] {0, 2, INTO}) {
                one[at] = value >> 8;
                one[at + 1] = value & 255;
            }
            one[READ] = value >> 8;
            one[READ + 1] = value & 255 & ~16;
            one[HEARD] = 0;
            one[HEARD + 1] = 0;
            Check.due("on", Check.on(x, Check.checked(one)), true);
            Check.due("night", x.has(6), value);
            Check.due("wax", x.has(7), value);
            Check.due("into it", x.reader(0, 6), value);
            written = Check.imageOf(x);
            for (int k = 0; k < one.length; k++) {
                Check.due("octet(" + k + ") of " + value, written[k], one[k]);
            }
        }
    }

    /** "last a byte: all ahead from 83 on, c = (5 c + it) mod 251". */
    private static void imageLastByte() {
        CandleInch x = new CandleInch();
        x.image();
        // 83, 415 - 251, 820 - 3 * 251, 335 - 251, 420 - 251
        Check.due("the last byte", x.octet(4), 169);
        for (int k = 0; k < 60; k++) {
            x.night();
            int n = x.image();
            int c = 83;
            for (int at = 0; at < n - 1; at++) {
                c = (5 * c + x.octet(at)) % 251;
            }
            Check.due("the last byte", x.octet(n - 1), c);
        }
    }

    /** "Byte k of the latest image()": library(), on() and acts leave it, the next image() takes its place. */
    private static void imageIsTheLatest() {
        CandleInch x = Check.of(text(3, 2, 1));
        Check.due("octet ahead of any", x.octet(0), NONE);
        x.night();
        Check.due("image", x.image(), 23);
        int last = x.octet(22);
        x.night();
        Check.tell(x, "x");
        Check.due("as it was", x.octet(1), 1);
        Check.due("as it was", x.octet(22), last);
        Check.tell(x, "");
        Check.due("as it was", x.octet(1), 1);
        Check.due("as it was", x.octet(22), last);
        Check.due("on", Check.on(x, Check.checked(0, 9, 0, 0, 0)), true);
        Check.due("as it was", x.octet(1), 1);
        Check.due("as it was", x.octet(22), last);
        Check.due("image", x.image(), 5);
        Check.due("the latest", x.octet(1), 9);
        Check.due("a shorter one", x.octet(5), NONE);
        Check.due("a shorter one", x.octet(22), NONE);
        Check.due("an image changes nothing", x.has(10), 0);
    }

    /** "NONE when there is none such." */
    private static void octetNoneSuch() {
        CandleInch x = Check.of(text(3, 1, 1));
        for (int far : FAR) {
            Check.due("octet(far)", x.octet(far), NONE);
        }
        Check.due("octet(0)", x.octet(0), NONE);
        Check.due("image", x.image(), 14);
        Check.due("octet(0)", x.octet(0), 0);
        Check.due("octet(13)", x.octet(13) != NONE, true);
        Check.due("octet(14)", x.octet(14), NONE);
        for (int far : FAR) {
            Check.due("octet(far)", x.octet(far), NONE);
        }
    }

    /** "The tape (it goes, refused or not)." */
    private static void tapeGoes() {
        CandleInch x = Check.of(text(3, 1, 1));
        Check.due("on", Check.on(x, Check.checked(new int[14])), true);
        Check.due("end(1)", x.end(1), false);
        Check.due("on", Check.on(x, new int[14]), false);
        Check.due("end(1)", x.end(1), false);
        Check.due("status(0)", x.status(0), 2);
        Check.due("nothing is no image", x.on(), false);
        Check.due("status(5)", x.status(5), 2);
        // a text's bytes are no image, and an image's no text
        Check.due("on", Check.on(x, Check.bytesOf("inch 10;")), false);
        Check.feedBytes(x, Check.checked(new int[14]));
        Check.due("library", x.library(), NONE);
        Check.due("fault", x.fault(1), 0);
    }

    private static int[] fresh(int listed) {
        int[] image = new int[14 + listed];
        image[LISTED] = listed;
        for (int k = 0; k < listed; k++) {
            image[LISTED + 1 + k] = k;
        }
        return image;
    }

    /** Another object for each image: taken it tells what stands there, refused all stays as it was. */
    private static void due(String why, String text, boolean want, int... image) {
        int[] bytes = Check.checked(image);
        if (!want) {
            Check.refused(why, () -> livedWith(text), x -> Check.bit(Check.on(x, bytes)), 0, 5);
            return;
        }
        CandleInch x = livedWith(text);
        Check.due(why, Check.on(x, bytes), true);
        Check.due(why + ": status(5)", x.status(5), 0);
        int[] again = Check.imageOf(x);
        Check.due(why + ": as long", again.length, bytes.length);
        for (int k = 0; k < Math.min(again.length, bytes.length); k++) {
            Check.due(why + ": octet(" + k + ")", again[k], bytes[k]);
        }
    }

    private static CandleInch livedWith(String text) {
        CandleInch x = Check.of(text);
        x.list(0, 2);
        x.list(0, 0);
        x.winter(2);
        x.list(0, 1);
        x.image();
        return x;
    }

    private static int[] with(int[] image, int at, int... values) {
        int[] other = image.clone();
        System.arraycopy(values, 0, other, at, values.length);
        return other;
    }

    /** "NIGHT 999, WAX 9999 at most". */
    private static void nightAndWax() {
        String text = text(3, 1, 1);
        int[] nights = {0, 1, 255, 256, 998, 999, 1000, 1001, 1023, 1024, 9999, 65535};
        for (int night : nights) {
            due("night " + night, text, night <= 999, with(fresh(0), 0, night >> 8, night & 255));
        }
        int[] waxes = {0, 1, 255, 256, 999, 1000, 9998, 9999, 10000, 10001, 16384, 65535};
        for (int wax : waxes) {
            due("wax " + wax, text, wax <= 9999, with(fresh(0), 2, wax >> 8, wax & 255));
        }
    }

    /** "TABLES .. that there are". */
    private static void tablesThatThereAre() {
        for (int tables = 1; tables <= 5; tables++) {
            String text = text(3, 1, tables);
            for (int table = 0; table <= 6; table++) {
                due("table " + table + " of " + tables, text, table < tables, with(fresh(0), TABLE, table));
                due("table " + table + " of " + tables, text, table < tables, with(fresh(2), TABLE, table));
            }
            due("table 255", text, false, with(fresh(0), TABLE, 255));
        }
    }

    /** "PAGES that there are": read, heard of, listed, left off. */
    private static void pagesThatThereAre() {
        int[] counts = {3, 7, 8, 9, 13, 14};
        for (int pages : counts) {
            String text = text(pages, 1, 1);
            int full = (1 << pages) - 1;
            int[] sets = {1, full, full - 1, 1 << (pages - 1), full + 1, full + 2, 2 * full + 1, 1 << 15, 65535};
            for (int set : sets) {
                boolean good = set <= full;
                due("read " + set, text, good, with(fresh(0), READ, set >> 8, set & 255));
                due("heard of " + set, text, good, with(fresh(0), HEARD, set >> 8, set & 255));
            }
            for (int page = pages - 1; page <= pages + 2; page++) {
                boolean good = page < pages;
                due("listed " + page, text, good, with(fresh(1), LISTED + 1, page));
                due("listed behind others " + page, text, good, with(fresh(3), LISTED + 3, page));
                due("left off " + page, text, good, with(with(fresh(1), LISTED + 1, page), LEFT, page + 1, 0, 7));
            }
            due("listed 255", text, false, with(fresh(1), LISTED + 1, 255));
            due("listed 32", text, false, with(fresh(1), LISTED + 1, 32));
        }
        due("none of none", text(3, 1, 1), true, fresh(0));
    }

    /** "none both READ and HEARD of". */
    private static void noneBothReadAndHeard() {
        String text = text(14, 1, 1);
        for (int page = 0; page < 14; page++) {
            int bit = 1 << page;
            int rest = 16383 & ~bit;
            due("both", text, false, with(fresh(0), READ, bit >> 8, bit & 255, bit >> 8, bit & 255));
            due("both among others", text, false, with(fresh(0), READ, 63, 255, bit >> 8, bit & 255));
            due("either", text, true, with(fresh(0), READ, bit >> 8, bit & 255, rest >> 8, rest & 255));
        }
    }

    /** "LISTS of 8 unlike ones at most". */
    private static void listsOfEightUnlikeOnes() {
        String text = text(14, 1, 1);
        for (int listed = 0; listed <= 14; listed++) {
            due("listed " + listed, text, listed <= 8, fresh(listed));
        }
        for (int a = 0; a < 8; a++) {
            for (int b = a + 1; b < 8; b++) {
                due("like ones", text, false, with(fresh(8), LISTED + 1 + b, a));
            }
            due("another one", text, true, with(fresh(8), LISTED + 1 + a, 13));
        }
    }

    /** "that are not known". */
    private static void listedNotKnown() {
        String text = text(14, 1, 1);
        for (int page = 0; page < 8; page++) {
            int bit = 1 << page;
            due("listed and read", text, false, with(fresh(8), READ, 0, bit));
            due("listed and heard of", text, false, with(fresh(8), HEARD, 0, bit));
        }
        due("others read and heard of", text, true, with(fresh(8), READ, 3, 0, 60, 0));
    }

    /** "the one left off .. one of these". */
    private static void leftOffIsListed() {
        String text = text(14, 1, 1);
        for (int page = 0; page < 14; page++) {
            due("left off " + page, text, page < 8, with(fresh(8), LEFT, page + 1, 0, 3));
        }
        due("left off of an empty list", text, false, with(fresh(0), LEFT, 1, 0, 3));
        due("left off beyond all", text, false, with(fresh(8), LEFT, 15, 0, 3));
        due("left off beyond all", text, false, with(fresh(8), LEFT, 255, 0, 3));
        // one that is known is not listed
        due("left off and read", text, false, with(fresh(3), READ, 0, 128, 0, 0, 8, 0, 3));
        // whether he may read it is not asked
        due("what it needs is not known", text(3, 1, 1) + "needs pc pa;", true, with(with(fresh(1), LISTED + 1, 2), LEFT, 3, 0, 3));
        due("known without what it needs", text(3, 1, 1) + "needs pc pa;", true, with(fresh(0), READ, 0, 4));
    }

    /** "(1 .. 499 minutes; 0 without)". */
    private static void minutesIntoIt() {
        String text = text(14, 1, 1);
        int[] minutes = {0, 1, 2, 255, 256, 498, 499, 500, 501, 511, 512, 65535};
        for (int into : minutes) {
            due("into " + into, text, into >= 1 && into <= 499, with(fresh(2), LEFT, 2, into >> 8, into & 255));
            due("into " + into + " without", text, into == 0, with(fresh(2), LEFT, 0, into >> 8, into & 255));
        }
    }

    /** The last byte must be what those ahead make it. */
    private static void lastByteOfIt() {
        int[] good = Check.checked(with(fresh(2), 0, 1, 2, 3, 4));
        for (int last = 0; last < 256; last++) {
            int[] bytes = good.clone();
            bytes[15] = last;
            CandleInch x = Check.of(text(3, 1, 1));
            Check.due("last byte " + last, Check.on(x, bytes), last == good[15]);
            Check.due("status(5)", x.status(5), last == good[15] ? 0 : 1);
        }
        // any other byte changed alone is seen by it
        for (int at = 0; at < 15; at++) {
            int[] bytes = good.clone();
            bytes[at] ^= 1;
            Check.due("byte " + at, Check.on(Check.of(text(3, 1, 1)), bytes), false);
        }
    }

    /** No byte too few, and none too many. */
    private static void asLongAsItIs() {
        String[] texts = {"", text(3, 1, 1), text(3, 2, 1)};
        int[] lengths = {5, 14, 23};
        for (int k = 0; k < texts.length; k++) {
            for (int n = 0; n <= 30; n++) {
                CandleInch x = Check.of(texts[k]);
                int[] bytes = new int[n];
                Check.due("length " + n, Check.on(x, n == 0 ? bytes : Check.checked(bytes)), n == lengths[k]);
                Check.due("status(5)", x.status(5), n == lengths[k] ? 0 : 1);
            }
        }
        // bytes behind the tape's end are none
        CandleInch x = Check.of(text(3, 1, 1));
        Check.feedBytes(x, Check.checked(new int[14]));
        x.end(13);
        Check.due("cut", x.on(), false);
        Check.feedBytes(x, Check.checked(fresh(2)));
        x.end(15);
        Check.due("cut", x.on(), false);
        int[] cut = Arrays.copyOf(fresh(2), 15);
        Check.due("a list cut", Check.on(x, Check.checked(cut)), false);
        Check.due("status(5)", x.status(5), 3);
    }

    /** "is AN IMAGE of this LIBRARY". */
    private static void ofThisLibrary() {
        int[] two = Check.imageOf(Check.of(text(3, 2, 2)));
        Check.due("two readers", Check.on(Check.of(text(3, 2, 2)), two), true);
        Check.due("of more pages and tables", Check.on(Check.of(text(5, 2, 3)), two), true);
        Check.due("one reader", Check.on(Check.of(text(3, 1, 2)), two), false);
        Check.due("three readers", Check.on(Check.of(text(3, 3, 2)), two), false);
        Check.due("none", Check.on(new CandleInch(), two), false);
        CandleInch x = Check.of(text(3, 2, 2));
        x.seat(1, 1);
        Check.due("one table", Check.on(Check.of(text(3, 2, 1)), Check.imageOf(x)), false);
        x.list(0, 2);
        x.seat(1, 0);
        Check.due("two pages", Check.on(Check.of(text(2, 2, 1)), Check.imageOf(x)), false);
        Check.due("three pages", Check.on(Check.of(text(3, 2, 1)), Check.imageOf(x)), true);
    }

    /** "all is as it tells, nothing is KEPT, no ACT can be undone". */
    private static void nothingIsKept() {
        CandleInch x = livedWith(text(3, 1, 1));
        Check.due("kept", x.has(8), 1);
        Check.due("acts", x.has(10), 4);
        int[] image = Check.imageOf(x);
        Check.due("on", Check.on(x, image), true);
        Check.due("kept", x.has(8), 0);
        Check.due("kept(0, 0)", x.kept(0, 0), NONE);
        Check.due("acts", x.has(10), 0);
        Check.due("undo", x.undo(), false);
        Check.due("status(4)", x.status(4), 1);
        Check.due("read as it was", x.reader(0, 3), 4);
        // what is read from now on is kept, and acts are undone up to the image
        x.winter(3);
        Check.due("kept", x.has(8), 1);
        Check.due("its night", x.kept(0, 0), 4);
        Check.due("its page", x.kept(0, 2), 0);
        Check.due("undo", x.undo(), true);
        Check.due("undo", x.undo(), false);
        Check.due("night", x.has(6), 2);
        Check.due("kept", x.has(8), 0);
    }

    /** The image tells neither the seed nor the library, nor how much was refused. */
    private static void whatStays() {
        CandleInch x = livedWith(text(3, 1, 2));
        x.seed(4711);
        x.seat(9, 9);
        Check.tell(x, "x");
        Check.due("on", Check.on(x, Check.checked(with(fresh(1), 0, 0, 7, 0, 8))), true);
        Check.due("the seed", x.has(11), 4711);
        Check.due("pages", x.has(1), 3);
        Check.due("inch", x.has(5), 10);
        Check.due("takes", x.takes(0, 0), 20);
        Check.due("refused", x.status(2), 1);
        Check.due("fault", x.fault(0), 1);
        Check.due("night", x.has(6), 7);
        Check.due("wax", x.has(7), 8);
    }

    /** "for each READER": a byte that can't be is seen with each of them. */
    private static void eachReader() {
        String text = text(3, 6, 2);
        int[] good = new int[5 + 9 * 6];
        Check.due("good", Check.on(Check.of(text), Check.checked(good)), true);
        for (int r = 0; r < 6; r++) {
            int from = 4 + 9 * r;
            int[][] bad = {{0, 2}, {1, 1}, {2, 8}, {3, 1}, {4, 8}, {5, 1}, {6, 1}, {7, 1}, {8, 1}};
            for (int[] one : bad) {
                int[] bytes = good.clone();
                bytes[from + one[0]] = one[1];
                Check.refused("reader " + r + ", byte " + one[0], () -> Check.of(text), x -> Check.bit(Check.on(x, Check.checked(bytes))), 0, 5);
            }
            int[] bytes = good.clone();
            bytes[from] = 1;
            bytes[from + 2] = 5;
            bytes[from + 4] = 2;
            CandleInch x = Check.of(text);
            Check.due("fine", Check.on(x, Check.checked(bytes)), true);
            for (int other = 0; other < 6; other++) {
                Check.due("table", x.reader(other, 0), other == r ? 1 : 0);
                Check.due("read", x.reader(other, 3), other == r ? 5 : 0);
                Check.due("heard of", x.reader(other, 4), other == r ? 2 : 0);
                Check.due("left off", x.reader(other, 5), NONE);
            }
        }
    }

    /** "How many were refused: 0 feed(), end(); 1 library(); 2 seat(), list(), drop(), tell(); 3 night(), winter(); 4 undo(); 5 seed(), on()." */
    private static void statusEach() {
        CandleInch x = Check.of(text(3, 1, 1));
        int[] due = new int[6];
        for (int round = 0; round < 3; round++) {
            x.end(-1);
            due[0]++;
            dueCounts(x, due);
            x.feed(0x78000000, 0, 0, 0, 0);
            x.library();
            due[1]++;
            dueCounts(x, due);
            x.seat(0, 0);
            due[2]++;
            dueCounts(x, due);
            x.list(0, 3);
            due[2]++;
            dueCounts(x, due);
            x.drop(1);
            due[2]++;
            dueCounts(x, due);
            x.tell(0, 0, 0);
            due[2]++;
            dueCounts(x, due);
            x.winter(31);
            due[3]++;
            dueCounts(x, due);
            x.undo();
            due[4]++;
            dueCounts(x, due);
            x.seed(-1);
            due[5]++;
            dueCounts(x, due);
            x.on();
            due[5]++;
            dueCounts(x, due);
        }
        // calls that are taken count nowhere
        x.list(0, 0);
        x.night();
        x.winter(1);
        x.drop(0);
        x.undo();
        x.seed(3);
        x.feed(0, 0, 0, 0, 0);
        x.end(0);
        Check.on(x, Check.checked(new int[14]));
        dueCounts(x, due);
        CandleInch y = new CandleInch();
        for (int k = 0; k < 81; k++) {
            y.feed(0, 0, 0, 0, 0);
        }
        Check.due("feed", y.status(0), 1);
        Check.on(y, Check.checked(3, 231, 0, 0, 0));
        Check.due("feed", y.status(0), 1);
        y.night();
        Check.due("night", y.status(3), 1);
    }

    private static void dueCounts(CandleInch x, int[] due) {
        int[] got = Check.countsOf(x);
        for (int k = 0; k < 6; k++) {
            Check.due("status(" + k + ")", got[k], due[k]);
        }
    }

    /** "NONE for others." */
    private static void statusNoneSuch() {
        CandleInch x = new CandleInch();
        Check.due("status(0)", x.status(0), 0);
        Check.due("status(5)", x.status(5), 0);
        Check.due("status(6)", x.status(6), NONE);
        for (int far : FAR) {
            Check.due("status(far)", x.status(far), NONE);
        }
        Check.due("NONE", NONE, -1);
    }

    /** No value of no argument stops a call: the machine never throws. */
    private static void farValuesEverywhere() {
        int[] values = {Integer.MIN_VALUE, Integer.MIN_VALUE + 1, -65536, -1, 0, 1, 5, 8, 13, 14, 20, 31, 32, 33, 60, 99, 127, 500, 1 << 14,
            1 << 30, Integer.MAX_VALUE - 9, Integer.MAX_VALUE};
        String[] texts = {"", text(14, 6, 5), text(1, 1, 1) + "burns 0;takes 0;", text(0, 2, 1), "book b;page pa of b lines 9;", Check.tables(5)};
        for (String text : texts) {
            for (int a : values) {
                CandleInch x = Check.of(text);
                x.list(0, 0);
                for (int b : values) {
                    anyCalls(x, a, b);
                    if (b == 1 || b == 20 || b == 60) {
                        x = Check.of(text);
                    }
                }
                Check.due("the object is good still", x.has(6) >= 0 && x.has(11) >= 0, true);
            }
        }
    }

    private static void anyCalls(CandleInch x, int a, int b) {
        x.letter(a, b, 0);
        x.letter(0, a, b);
        x.page(a, b);
        x.reader(a, b);
        x.table(a, b);
        x.takes(a, b);
        x.burns(a);
        x.tonight(a, b);
        x.whole(a);
        x.seat(a, b);
        x.list(a, b);
        x.drop(a);
        x.tell(a, b, 0);
        x.tell(0, a, b);
        x.winter(a);
        x.seed(a);
        x.kept(a, b);
        x.work(a, b, 1);
        x.work(0, a, b);
        x.scholar(a);
        x.shared(a, b);
        x.seated(a);
        x.most(a, b, 0);
        x.most(0, a, b);
        x.wax(a, b, 0);
        x.wax(0, a, b);
        x.index(a, b);
        x.octet(a);
        x.status(a);
        x.has(a);
        x.fault(a);
        x.end(a);
        x.feed(a, b, a, b, a);
        if (b == 14) {
            x.library();
            x.on();
            x.undo();
            x.night();
        }
    }
}
