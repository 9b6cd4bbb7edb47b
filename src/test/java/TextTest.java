/** Promises 1 to 7: the tape, the library and its faults, what there is. */
public final class TextTest {
    private static final int NONE = CandleInch.NONE;
    private static final String NAMED =
            "book a;book bcdefg;page p of a lines 1;page q of bcdefg lines 99 big;needs q p;"
            + "reader r pace 9 eyes 9;reader rr pace 1 eyes 0;table t draft 9;table tz draft 0;inch 10;inch 120;";

    public static void main(String[] args) {
        newObject();
        feed();
        end();
        library();
        libraryKeeps();
        faultCall();
        has();
        letter();
        faultText();
        faultWords();
        faultNames();
        faultNumbers();
        faultOpen();
        faultMany();
        grammar();
        Check.close("TextTest");
    }

    private static void newObject() {
        CandleInch x = new CandleInch();
        int[] due = {0, 0, 0, 0, 0, 60, 0, 0, 0, 0, 0, 1};
        for (int k = 0; k < due.length; k++) {
            Check.due("new has(" + k + ")", x.has(k), due[k]);
        }
        for (int k = 0; k < 6; k++) {
            Check.due("new status", x.status(k), 0);
        }
        Check.due("new octet(0)", x.octet(0), NONE);
        Check.due("new page", x.page(0, 0), NONE);
        Check.due("new reader", x.reader(0, 0), NONE);
        Check.due("new table", x.table(0, 0), NONE);
        Check.due("new end(0)", x.end(0), true);
    }

    private static void feed() {
        CandleInch x = new CandleInch();
        for (int k = 1; k <= 80; k++) {
            Check.due("feed", x.feed(0, 0, 0, 0, 0), 20 * k);
        }
        Check.due("feed beyond", x.feed(0, 0, 0, 0, 0), NONE);
        Check.due("status(0)", x.status(0), 1);
        Check.due("end(1581)", x.end(1581), true);
        Check.due("feed beyond by 1", x.feed(0, 0, 0, 0, 0), NONE);
        Check.due("end(1580)", x.end(1580), true);
        Check.due("feed to the end", x.feed(0, 0, 0, 0, 0), 1600);
        Check.due("status(0)", x.status(0), 2);
        // the highest byte of each number first: "inch" is 0x696e6368
        CandleInch y = new CandleInch();
        Check.due("feed", y.feed(0x696e6368, 0x2039393b, 0x20202020, 0x0a0a0a0a, 0x20202020), 20);
        Check.due("library", y.library(), 1);
        Check.due("inch", y.has(5), 99);
        // bytes above 127 are bytes, too
        CandleInch z = new CandleInch();
        z.feed(0x20ff2020, -1, -1, -1, -1);
        Check.due("library", z.library(), NONE);
        Check.due("fault(1)", z.fault(1), 1);
    }

    private static void end() {
        CandleInch x = new CandleInch();
        Check.due("end(-1)", x.end(-1), false);
        Check.due("end(1)", x.end(1), false);
        Check.due("end(min)", x.end(Integer.MIN_VALUE), false);
        Check.due("status(0)", x.status(0), 3);
        Check.due("end(0)", x.end(0), true);
        x.feed(0, 0, 0, 0, 0);
        Check.due("end(20)", x.end(20), true);
        Check.due("end(21)", x.end(21), false);
        Check.due("end(7)", x.end(7), true);
        Check.due("end(8)", x.end(8), false);
        Check.due("feed behind 7", x.feed(0, 0, 0, 0, 0), 27);
        Check.due("status(0)", x.status(0), 5);
    }

    private static void library() {
        CandleInch x = new CandleInch();
        Check.due("empty library", x.library(), 0);
        Check.due("blank library", Check.tell(x, " \n "), 0);
        Check.due("named", Check.tell(x, NAMED), 11);
        Check.due("the tape is gone", x.end(1), false);
        Check.due("80", Check.tell(x, Check.times("inch 10;", 80)), 80);
        Check.due("the tape is gone when refused", Check.tell(x, "inch 9;"), NONE);
        Check.due("the tape is gone when refused", x.end(1), false);
        Check.due("nothing on the tape then", x.library(), 0);
    }

    private static void libraryKeeps() {
        CandleInch x = Check.of(NAMED);
        x.list(0, 0);
        x.seed(77);
        x.image();
        x.night();
        Check.due("refused", Check.tell(x, "book a;book a;"), NONE);
        Check.due("all stays: night", x.has(6), 1);
        Check.due("all stays: pages", x.has(1), 2);
        Check.due("all stays: kept", x.has(8), 1);
        Check.due("all stays: acts", x.has(10), 2);
        Check.due("told", Check.tell(x, NAMED), 11);
        int[] due = {2, 2, 1, 2, 2, 120, 0, 0, 0, 0, 0, 77};
        for (int k = 0; k < due.length; k++) {
            Check.due("anew has(" + k + ")", x.has(k), due[k]);
        }
        Check.due("anew list", x.reader(0, 7), 0);
        Check.due("anew read", x.reader(0, 3), 0);
        Check.due("refusals stay", x.status(1), 1);
        Check.due("the image stays", x.octet(12), 1);
        Check.due("nothing to undo", x.undo(), false);
        Check.due("empty", x.library(), 0);
        Check.due("usual inch", x.has(5), 60);
        Check.due("no readers", x.has(3), 0);
    }

    private static void faultCall() {
        CandleInch x = new CandleInch();
        Check.due("fault(0)", x.fault(0), 0);
        Check.due("fault(1)", x.fault(1), NONE);
        Check.tell(x, "inch 9;");
        Check.due("fault(0)", x.fault(0), 4);
        Check.due("fault(1)", x.fault(1), 5);
        Check.due("fault(2)", x.fault(2), NONE);
        Check.due("fault(-1)", x.fault(-1), NONE);
        Check.tell(x, "inch 10;");
        Check.due("fault(0)", x.fault(0), 0);
        Check.due("fault(1)", x.fault(1), NONE);
    }

    private static void has() {
        CandleInch x = Check.of(NAMED);
        int[] due = {2, 2, 1, 2, 2, 120, 0, 0, 0, 0, 0, 1};
        for (int k = 0; k < due.length; k++) {
            Check.due("has(" + k + ")", x.has(k), due[k]);
        }
        Check.due("has(12)", x.has(12), NONE);
        Check.due("has(-1)", x.has(-1), NONE);
        Check.due("has(max)", x.has(Integer.MAX_VALUE), NONE);
        x.list(0, 0);
        x.list(1, 0);
        x.list(1, 1);
        x.night();
        Check.due("known by all together", x.has(9), 3);
        Check.due("kept", x.has(8), 3);
        Check.due("acts", x.has(10), 4);
    }

    private static void letter() {
        CandleInch x = Check.of(NAMED);
        int[] due = {2, 3, 4, 5, 6, 7};
        for (int k = 0; k < 6; k++) {
            Check.due("letter of bcdefg", x.letter(0, 1, k), due[k]);
            Check.due("letter of a", x.letter(0, 0, k), k == 0 ? 1 : 0);
        }
        Check.due("letter of p", x.letter(1, 0, 0), 16);
        Check.due("letter of rr", x.letter(2, 1, 1), 18);
        Check.due("letter of rr", x.letter(2, 1, 2), 0);
        Check.due("letter of tz", x.letter(3, 1, 1), 26);
        int[] most = {5, 14, 6, 5};
        StringBuilder full = new StringBuilder();
        for (int kind = 0; kind < 4; kind++) {
            for (int k = 0; k < most[kind]; k++) {
                full.append(new String[] {"book ", "page ", "reader ", "table "}[kind]);
                full.append((char) ('w' + kind)).append((char) ('a' + k)).append("zzzz");
                full.append(new String[] {";", " of wazzzz lines 1;", " pace 1 eyes 1;", " draft 1;"}[kind]);
            }
        }
        CandleInch y = Check.of(full.toString());
        for (int kind = 0; kind < 4; kind++) {
            for (int which = 0; which < most[kind]; which++) {
                for (int k = 0; k < 6; k++) {
                    int sign = k == 0 ? 23 + kind : k == 1 ? 1 + which : 26;
                    Check.due("letter(" + kind + ", " + which + ", " + k + ")", y.letter(kind, which, k), sign);
                }
            }
        }
        Check.due("letter 6", x.letter(0, 1, 6), NONE);
        Check.due("letter -1", x.letter(0, 1, -1), NONE);
        Check.due("book 2", x.letter(0, 2, 0), NONE);
        Check.due("book -1", x.letter(0, -1, 0), NONE);
        Check.due("page 2", x.letter(1, 2, 0), NONE);
        Check.due("reader 2", x.letter(2, 2, 0), NONE);
        Check.due("table 2", x.letter(3, 2, 0), NONE);
        Check.due("kind 4", x.letter(4, 0, 0), NONE);
        Check.due("kind -1", x.letter(-1, 0, 0), NONE);
    }

    private static void faultText() {
        Check.fault("a", 1, 0);
        Check.fault(";", 1, 0);
        Check.fault("5", 1, 0);
        Check.fault("book", 1, 4);
        Check.fault("book  ", 1, 6);
        Check.fault("book a", 1, 6);
        Check.fault("book a \n", 1, 8);
        Check.fault("book a;;", 1, 7);
        Check.fault("book a;x", 1, 7);
        Check.fault("book a book b;", 1, 7);
        Check.fault("of a;", 1, 0);
        Check.fault("lines 5;", 1, 0);
        Check.fault("Book a;", 1, 0);
        Check.fault("book A;", 1, 5);
        Check.fault("book a\t;", 1, 6);
        Check.fault("book a\r;", 1, 6);
        Check.fault("book a;page p a lines 5;", 1, 14);
        Check.fault("book a;page p of a 5;", 1, 19);
        Check.fault("book a;page p of a lines big;", 1, 25);
        Check.fault("book a;page p of a lines 5 x;", 1, 27);
        Check.fault("book a;page p of a lines 5 big big;", 1, 31);
        Check.fault("reader r eyes 5;", 1, 9);
        Check.fault("reader r pace 5;", 1, 15);
        Check.fault("table t 5;", 1, 8);
        Check.fault("reader r pace 1 eyes 0;", 1, 23);
        Check.fault("reader r pace 1 eyes 0; \n", 1, 25);
        Check.fault("inch -5;", 1, 5);
        Check.fault("inch;", 1, 4);
    }

    private static void faultWords() {
        // words and numbers whole, at their first byte; too long ones at the byte that is too much
        Check.fault("books a;", 1, 0);
        Check.fault("book sevenab;", 1, 11);
        Check.fault("sevenab a;", 1, 6);
        Check.fault("book a sevenab", 1, 13);
        Check.fault("sittings", 1, 6);
        Check.fault("sitting", 1, 0);
        Check.fault("book sitting;", 1, 5);
        Check.fault("inch 12345;", 1, 9);
        Check.fault("book 12345;", 1, 9);
        Check.fault("book 1234;", 1, 5);
        Check.fault("book a 00000", 1, 11);
        // words and numbers side by side need a blank
        Check.fault("inch20;", 1, 4);
        Check.fault("inch9;", 1, 4);
        Check.fault("book a;page p of a lines 5big;", 1, 26);
        Check.fault("book a5;", 1, 6);
        Check.fault("burns 5inch;", 1, 7);
        Check.fault("takes lines5;", 1, 11);
        Check.fault("tells 1<2or 2<3;", 1, 9);
        Check.fault("tells not5<6;", 1, 9);
        // where the blank lacks comes ahead of where the word or number is too long
        Check.fault("burns 1readertell", 1, 7);
        Check.fault("burns 1abcdef", 1, 7);
        Check.fault("burns 1abcdefg", 1, 7);
        Check.fault("burns 1sitting;", 1, 7);
        Check.fault("burns 1sittings;", 1, 7);
        Check.fault("burns 1 abcdefg;", 1, 14);
        Check.fault("burns 1\nabcdefg;", 1, 14);
        Check.fault("burns 1)abcdefg;", 1, 7);
        Check.fault("burns 1+abcdefg;", 1, 14);
        Check.fault("inch12345;", 1, 4);
        Check.fault("inch1234;", 1, 4);
        Check.fault("inch 12345abcdefg;", 1, 9);
        Check.fault("book a12345;", 1, 6);
        Check.fault("book abcdef12345;", 1, 11);
        Check.fault("book abcdefg12345;", 1, 11);
        Check.fault("burns inch00000;", 1, 10);
        Check.fault("burns inch 00000;", 1, 15);
        Check.fault("takes min12345(1,2);", 1, 9);
        Check.fault("tells not99999<6;", 1, 9);
        Check.fault("tells 1<2orandnotall;", 1, 9);
        Check.fault("book a;page p of a lines 5bigbigbig;", 1, 26);
        Check.fault("book a;page p of a lines 5 bigbigbig;", 1, 33);
        Check.fault("book a;page p of a lines 5 big77777;", 1, 30);
    }

    private static void faultNames() {
        String[] own = {"book", "page", "of", "lines", "big", "needs", "reader", "pace", "eyes", "table", "draft",
            "inch", "burns", "takes", "tells", "print", "knows", "sitting", "night", "or", "and", "not", "all",
            "min", "max"};
        for (String word : own) {
            Check.fault("book " + word + ";", 1, 5);
            Check.fault("book a;page p of " + word + " lines 1;", 1, 17);
        }
        Check.fault("book a;book a;", 2, 12);
        Check.fault("book a;book a", 2, 12);
        Check.fault("book a;table a draft 1;", 2, 13);
        Check.fault("table a draft 1;reader a pace 1 eyes 1;", 2, 23);
        Check.fault("book a;page p of a lines 1;reader p pace 1 eyes 1;", 2, 34);
        Check.fault("book a;page a of a lines 1;", 2, 12);
        Check.fault("page p of a lines 1;", 3, 10);
        Check.fault("book a;page p of p lines 1;", 3, 17);
        Check.fault("book a;page p of ab lines 1;", 3, 17);
        Check.fault("table a draft 1;page p of a lines 1;", 3, 26);
        String two = "book a;page p of a lines 1;page q of a lines 1;";
        Check.fault(two + "needs a p;", 3, two.length() + 6);
        Check.fault(two + "needs q a;", 3, two.length() + 8);
        Check.fault(two + "needs q z;", 3, two.length() + 8);
        Check.fault(two + "needs p p;", 3, two.length() + 8);
        Check.fault(two + "needs p q;", 3, two.length() + 8);
        Check.fault(two + "needs q p;needs q p;", 3, two.length() + 18);
        Check.fault(two + "needs 5", 1, two.length() + 6);
        Check.fault(two + "needs q 5", 1, two.length() + 8);
        Check.fault(two + "needs q;", 1, two.length() + 7);
        Check.fault(two + "needs q of;", 1, two.length() + 8);
    }

    private static void faultNumbers() {
        String a = "book a;page p of a lines ";
        Check.fault(a + "0;", 4, 25);
        Check.fault(a + "100;", 4, 25);
        Check.fault(a + "9999", 4, 25);
        Check.fault("reader r pace 0 eyes 1;", 4, 14);
        Check.fault("reader r pace 10 eyes 1;", 4, 14);
        Check.fault("reader r pace 1 eyes 10;", 4, 21);
        Check.fault("table t draft 10;", 4, 14);
        Check.fault("inch 9;", 4, 5);
        Check.fault("inch 121;", 4, 5);
        Check.fault("inch 60;inch 0", 4, 13);
        CandleInch x = Check.of(a + "0001;page q of a lines 99;reader r pace 1 eyes 0;reader s pace 0009 eyes 9;"
                + "table t draft 0;table u draft 9;inch 0010;");
        Check.due("0001", x.page(0, 1), 1);
        Check.due("0010", x.has(5), 10);
        Check.due("0009", x.reader(1, 1), 9);
    }

    private static void faultOpen() {
        String seven = Check.times("(", 7);
        String closed = Check.times(")", 7);
        Check.due("7 open", Check.tell(new CandleInch(), "burns " + seven + "1" + closed + ";"), 1);
        Check.due("7 open twice", Check.tell(new CandleInch(),
                "burns " + seven + "1" + closed + "+" + seven + "1" + closed + ";"), 1);
        Check.fault("burns " + seven + "(1", 5, 13);
        Check.fault("burns " + seven + "min(1", 5, 16);
        Check.fault("burns " + seven + "[", 1, 13);
        Check.fault("burns " + seven + "1(", 1, 14);
        Check.due("7 min", Check.tell(new CandleInch(), "takes " + Check.times("min(1,", 7) + "1" + closed + ";"), 1);
        Check.fault("takes " + Check.times("max(1,", 7) + "max(", 5, 51);
        Check.due("7 not", Check.tell(new CandleInch(), "tells " + Check.times("not ", 7) + "all;"), 1);
        Check.fault("tells " + Check.times("not ", 7) + "not", 5, 34);
        Check.fault("tells " + Check.times("not ", 7) + "[", 5, 34);
        Check.fault("tells " + Check.times("not ", 7) + "(", 5, 34);
        Check.due("not ends with its fact", Check.tell(new CandleInch(),
                "tells " + Check.times("not not all and ", 20) + "not [(1)<2];"), 1);
        Check.due("7 of all", Check.tell(new CandleInch(), "tells not [not [not [((1))<2]]];".replace("((1))", "(1)")), 1);
        Check.fault("tells not [not [not [((1))<2]]];", 5, 22);
        Check.due("7 [", Check.tell(new CandleInch(), "tells [[[[[[[all]]]]]]];"), 1);
        Check.fault("tells [[[[[[[[all", 5, 13);
        Check.fault("burns " + seven + "1" + closed + ")", 1, 21);
    }

    private static void faultMany() {
        String books = "book a;book b;book c;book d;book e;";
        Check.due("5 books", Check.tell(new CandleInch(), books), 5);
        Check.fault(books + "book", 6, 35);
        Check.fault(books + "  book a;", 6, 37);
        StringBuilder pages = new StringBuilder("book a;");
        for (char c = 'a'; c < 'a' + 14; c++) {
            pages.append("page p").append(c).append(" of a lines 1;");
        }
        Check.due("14 pages", Check.tell(new CandleInch(), pages.toString()), 15);
        Check.fault(pages + "page", 6, pages.length());
        StringBuilder needs = new StringBuilder(pages);
        for (int k = 0; k < 20; k++) {
            needs.append("needs p").append((char) ('n' - k / 10)).append(" p").append((char) ('a' + k % 10)).append(';');
        }
        Check.due("20 needs", Check.tell(new CandleInch(), needs.toString()), 35);
        Check.fault(needs + "needs x", 6, needs.length());
        StringBuilder readers = new StringBuilder("table t draft 0;");
        for (char c = 'a'; c < 'a' + 6; c++) {
            readers.append("reader r").append(c).append(" pace 1 eyes 1;");
        }
        Check.due("6 readers", Check.tell(new CandleInch(), readers.toString()), 7);
        Check.fault(readers + "reader", 6, readers.length());
        String tables = "table a draft 1;table b draft 1;table c draft 1;table d draft 1;table e draft 1;";
        Check.due("5 tables", Check.tell(new CandleInch(), tables), 5);
        Check.fault(tables + "table", 6, 80);
        Check.fault("burns 1;takes 1;tells all;burns", 6, 26);
        Check.fault("burns 1;takes 1;tells all;takes", 6, 26);
        Check.fault("burns 1;takes 1;tells all;tells", 6, 26);
        Check.fault(Check.times("inch 10;", 80) + "inch", 6, 640);
        Check.fault(Check.times("inch 10;", 80) + "book a;", 6, 640);
        Check.fault(Check.times("inch 10;", 80) + ";", 6, 640);
        Check.fault(Check.times("inch 10;", 80) + "x", 6, 640);
        Check.fault(Check.times("inch 10;", 80) + "abcdefg", 6, 640);
        Check.fault(Check.times("inch 10;", 80) + " 12345", 6, 641);
        Check.fault(Check.times("inch 10;", 79) + "abcdefg", 1, 638);
        Check.due("80 and blanks", Check.tell(new CandleInch(), Check.times("inch 10;", 80) + " \n "), 80);
        Check.due("80 of all kinds", Check.tell(new CandleInch(), "book a;" + Check.times("inch 10;", 78) + "burns 1;"), 80);
    }

    private static void grammar() {
        Check.fault("burns ;", 1, 6);
        Check.fault("burns -1;", 1, 6);
        Check.fault("burns 1+;", 1, 8);
        Check.fault("burns 1<2;", 1, 7);
        Check.fault("burns all;", 1, 6);
        Check.fault("burns big;", 1, 6);
        Check.fault("burns a;", 1, 6);
        Check.fault("burns (1;", 1, 8);
        Check.fault("burns min 1;", 1, 10);
        Check.fault("burns min(1;", 1, 11);
        Check.fault("burns min(1);", 1, 11);
        Check.fault("burns min(1,2,3);", 1, 13);
        Check.fault("burns max(,2);", 1, 10);
        Check.fault("burns 1 2;", 1, 8);
        Check.fault("burns lines/print+pace*eyes%knows-draft+sitting+inch+night;takes burns;", 1, 65);
        Check.fault("tells 1;", 1, 7);
        Check.fault("tells 1<;", 1, 8);
        Check.fault("tells 1<2<3;", 1, 9);
        Check.fault("tells [1<2;", 1, 10);
        Check.fault("tells [1<2);", 1, 10);
        Check.fault("tells (1<2);", 1, 8);
        Check.fault("tells not;", 1, 9);
        Check.fault("tells all or;", 1, 12);
        Check.fault("tells all and or all;", 1, 14);
        Check.fault("tells all all;", 1, 10);
        Check.fault("tells all<1;", 1, 9);
        Check.due("blanks where one likes", Check.tell(new CandleInch(),
                "\n book\na ;page\n\np of a lines 1 big ; burns( 1 + 2 )*min ( 3 ,4);tells[1<2]and not[all]or 1=1 ;"), 4);
        Check.due("no blanks", Check.tell(new CandleInch(), "burns(1+2)*min(3,4)%5/inch-night;tells[1<2]and not[all]or 1=1;"), 2);
    }
}
