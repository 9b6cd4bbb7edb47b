import java.util.List;
import java.util.function.ToIntFunction;

/** Promises 15 to 23 and the acts of the Terms: each sentence that names a boundary, on both its sides. */
public final class ActsEdgesTest {
    private static final int NONE = CandleInch.NONE;
    private static final int[] FAR = {Integer.MIN_VALUE, -2, -1, 100, 1 << 16, Integer.MAX_VALUE};

    public static void main(String[] args) {
        seatRefused();
        seatTaken();
        listRefused();
        listOfEight();
        dropRefused();
        dropEmpties();
        tellRefused();
        tellTaken();
        tellTests();
        tellLeavesListAndLeftOff();
        nightUpTo999();
        nightWithoutReaders();
        winterFrom1To30();
        winterUpTo999();
        winterWithoutTables();
        winterDrawsOfTheTables();
        winterDraftIsThreeMore();
        winterIsAsManyNights();
        seedFrom0();
        drawWrapsAround();
        undoEach();
        undoTwenty();
        undoOfNone();
        undoButTheSeed();
        keptByReaders();
        keptTheLastSixty();
        keptNoneSuch();
        waxUpTo9999();
        tapeStays();
        Check.close("ActsEdgesTest");
    }

    /** ra has read pa and pb and left pc off; rb has heard of pa and listed pb; rc sits elsewhere. */
    private static CandleInch some() {
        CandleInch x = Check.of(Check.pages(5, 12) + "needs pb pa;" + Check.readers(3) + Check.tables(2) + "burns 10;");
        x.list(0, 0);
        x.list(0, 1);
        x.list(0, 2);
        x.night();
        x.tell(0, 1, 0);
        x.list(1, 1);
        x.seat(2, 1);
        x.seed(77);
        Check.due("ra is into pc", x.reader(0, 6), 6);
        x.image();
        return x;
    }

    private static void refusedAct(String why, ToIntFunction<CandleInch> call) {
        Check.refused(why, ActsEdgesTest::some, call, 0, 2);
    }

    /** "false, refused (2), when there are none such, or he does." */
    private static void seatRefused() {
        refusedAct("seat(-1, 1)", x -> Check.bit(x.seat(-1, 1)));
        refusedAct("seat(3, 1)", x -> Check.bit(x.seat(3, 1)));
        refusedAct("seat(0, -1)", x -> Check.bit(x.seat(0, -1)));
        refusedAct("seat(0, 2)", x -> Check.bit(x.seat(0, 2)));
        refusedAct("seat(0, 0), where he does", x -> Check.bit(x.seat(0, 0)));
        refusedAct("seat(2, 1), where he does", x -> Check.bit(x.seat(2, 1)));
        for (int far : FAR) {
            refusedAct("seat(far, 1)", x -> Check.bit(x.seat(far, 1)));
            refusedAct("seat(0, far)", x -> Check.bit(x.seat(0, far)));
        }
    }

    /** "A READER sits at a TABLE: true." */
    private static void seatTaken() {
        CandleInch x = some();
        Check.due("seat(0, 1)", x.seat(0, 1), true);
        Check.due("table", x.reader(0, 0), 1);
        Check.due("left off", x.reader(0, 5), 2);
        Check.due("into it", x.reader(0, 6), 6);
        Check.due("seat(2, 0)", x.seat(2, 0), true);
        Check.due("table", x.reader(2, 0), 0);
        Check.due("nobody else has moved", x.reader(1, 0), 0);
        CandleInch y = Check.of(Check.readers(6) + Check.tables(5));
        Check.due("seat(5, 4)", y.seat(5, 4), true);
        Check.due("seat(5, 4) again", y.seat(5, 4), false);
        Check.due("seat(5, 0)", y.seat(5, 0), true);
        Check.due("status(2)", y.status(2), 1);
    }

    /** "false, refused (2), when there are none such, he knows it, it is there, or there are 8." */
    private static void listRefused() {
        refusedAct("list(-1, 3)", x -> Check.bit(x.list(-1, 3)));
        refusedAct("list(3, 3)", x -> Check.bit(x.list(3, 3)));
        refusedAct("list(0, -1)", x -> Check.bit(x.list(0, -1)));
        refusedAct("list(0, 5)", x -> Check.bit(x.list(0, 5)));
        refusedAct("he has read it", x -> Check.bit(x.list(0, 0)));
        refusedAct("he has read it", x -> Check.bit(x.list(0, 1)));
        refusedAct("he has heard of it", x -> Check.bit(x.list(1, 0)));
        refusedAct("it is there", x -> Check.bit(x.list(1, 1)));
        refusedAct("it is there and left off", x -> Check.bit(x.list(0, 2)));
        for (int far : FAR) {
            refusedAct("list(far, 3)", x -> Check.bit(x.list(far, 3)));
            refusedAct("list(0, far)", x -> Check.bit(x.list(0, far)));
        }
        // 32 more is another page
        refusedAct("list(0, 35)", x -> Check.bit(x.list(0, 35)));
        CandleInch x = some();
        Check.due("not known, not there", x.list(0, 3), true);
        Check.due("not known, not there", x.list(2, 0), true);
        Check.due("though he may not read it", x.list(2, 1), true);
        Check.due("there now", x.list(2, 1), false);
        Check.due("the last page", x.list(2, 4), true);
        x.drop(2);
        Check.due("there no more", x.list(2, 1), true);
    }

    /** "8 at most, unlike ones": "A PAGE is put behind a LIST." */
    private static void listOfEight() {
        CandleInch x = Check.of(Check.pages(14, 10) + Check.readers(2) + Check.tables(2) + "burns 10;");
        for (int k = 0; k < 8; k++) {
            for (int again = 0; again < k; again++) {
                Check.due("it is there", x.list(0, 13 - again), false);
            }
            Check.due("as the number " + (k + 1), x.list(0, 13 - k), true);
            Check.due("behind the list", x.reader(0, 10 + k), 13 - k);
        }
        Check.due("the first one still", x.reader(0, 10), 13);
        int refusals = x.status(2);
        Check.due("a ninth", x.list(0, 5), false);
        Check.due("a ninth", x.list(0, 0), false);
        Check.due("status(2)", x.status(2), refusals + 2);
        Check.due("eight", x.reader(0, 7), 8);
        Check.due("another one's list", x.list(1, 5), true);
        x.seat(1, 1);
        Check.due("each reads one", x.night(), 2);
        Check.due("seven", x.reader(0, 7), 7);
        Check.due("an eighth", x.list(0, 5), true);
        Check.due("a ninth", x.list(0, 0), false);
        Check.due("it is behind", x.reader(0, 17), 5);
    }

    /** "NONE, refused (2), when there is none such." */
    private static void dropRefused() {
        Check.refused("drop(-1)", ActsEdgesTest::some, x -> x.drop(-1), NONE, 2);
        Check.refused("drop(3)", ActsEdgesTest::some, x -> x.drop(3), NONE, 2);
        for (int far : FAR) {
            Check.refused("drop(far)", ActsEdgesTest::some, x -> x.drop(far), NONE, 2);
        }
        Check.refused("drop(0) of none", CandleInch::new, x -> x.drop(0), NONE, 2);
    }

    /** "A LIST is emptied: how many there were"; "(he has left nothing off then)". */
    private static void dropEmpties() {
        CandleInch x = Check.of(Check.pages(9, 50) + Check.readers(2) + Check.tables(1) + "burns 10;");
        for (int n = 0; n <= 8; n++) {
            for (int k = 0; k < n; k++) {
                x.list(1, k);
            }
            Check.due("drop of " + n, x.drop(1), n);
            Check.due("none", x.reader(1, 7), 0);
            Check.due("none", x.reader(1, 10), NONE);
        }
        CandleInch y = some();
        Check.due("drop", y.drop(0), 1);
        Check.due("left off", y.reader(0, 5), NONE);
        Check.due("into it", y.reader(0, 6), 0);
        Check.due("he knows what he knew", y.reader(0, 3), 3);
        Check.due("another list stays", y.reader(1, 7), 1);
        Check.due("what he had done is lost", y.list(0, 2), true);
        Check.due("begun anew", y.tonight(0, 2), 12);
    }

    /** "false, refused (2), when it can't be." */
    private static void tellRefused() {
        refusedAct("tell(-1, 2, 0)", x -> Check.bit(x.tell(-1, 2, 0)));
        refusedAct("tell(3, 2, 0)", x -> Check.bit(x.tell(3, 2, 0)));
        refusedAct("tell(0, -1, 1)", x -> Check.bit(x.tell(0, -1, 1)));
        refusedAct("tell(0, 3, 1)", x -> Check.bit(x.tell(0, 3, 1)));
        refusedAct("tell(0, 1, -1)", x -> Check.bit(x.tell(0, 1, -1)));
        refusedAct("tell(0, 1, 5)", x -> Check.bit(x.tell(0, 1, 5)));
        refusedAct("tell(0, 1, 32 + 1)", x -> Check.bit(x.tell(0, 1, 33)));
        for (int far : FAR) {
            refusedAct("tell(far, 1, 1)", x -> Check.bit(x.tell(far, 1, 1)));
            refusedAct("tell(0, far, 1)", x -> Check.bit(x.tell(0, far, 1)));
            refusedAct("tell(0, 1, far)", x -> Check.bit(x.tell(0, 1, far)));
        }
        refusedAct("to himself", x -> Check.bit(x.tell(0, 0, 0)));
        refusedAct("to himself", x -> Check.bit(x.tell(1, 1, 3)));
        refusedAct("not read, only listed", x -> Check.bit(x.tell(0, 1, 2)));
        refusedAct("not read", x -> Check.bit(x.tell(0, 1, 3)));
        refusedAct("the other one has heard of it", x -> Check.bit(x.tell(0, 1, 0)));
        refusedAct("the other one sits elsewhere", x -> Check.bit(x.tell(0, 2, 0)));
        // each of the conditions alone
        dueTold("only heard of, not read", false, x -> {
            x.seat(2, 0);
            return Check.bit(x.tell(1, 2, 0));
        });
        dueTold("he has read it", true, x -> {
            x.seat(2, 0);
            return Check.bit(x.tell(0, 2, 0));
        });
        dueTold("may not read it", false, x -> {
            x.seat(2, 0);
            return Check.bit(x.tell(0, 2, 1));
        });
        dueTold("may read it", true, x -> {
            x.seat(2, 0);
            x.tell(0, 2, 0);
            return Check.bit(x.tell(0, 2, 1));
        });
        dueTold("the other one has read it", false, x -> {
            x.night();
            return Check.bit(x.tell(0, 1, 1));
        });
        dueTold("he has read it, too", false, x -> {
            x.night();
            return Check.bit(x.tell(1, 0, 1));
        });
        dueTold("both sit elsewhere", true, x -> {
            x.seat(0, 1);
            return Check.bit(x.tell(0, 2, 0));
        });
        dueTold("one sits elsewhere", false, x -> {
            x.seat(0, 1);
            return Check.bit(x.tell(0, 1, 1));
        });
    }

    private static void dueTold(String why, boolean want, ToIntFunction<CandleInch> calls) {
        CandleInch x = some();
        int refusals = x.status(2);
        int known = x.has(9);
        Check.due(why, calls.applyAsInt(x), Check.bit(want));
        Check.due(why + ": status(2)", x.status(2), refusals + (want ? 0 : 1));
        Check.due(why + ": known by more", x.has(9) > known || !want, true);
    }

    /** "he has HEARD of it then." */
    private static void tellTaken() {
        CandleInch x = some();
        int acts = x.has(10);
        Check.due("tell", x.tell(0, 1, 1), true);
        Check.due("heard of", x.reader(1, 4), 3);
        Check.due("not read", x.reader(1, 3), 0);
        Check.due("left the list", x.reader(1, 7), 0);
        Check.due("the first one is as he was", x.reader(0, 3), 3);
        Check.due("an act", x.has(10), acts + 1);
        Check.due("nothing is kept by it", x.has(8), 2);
        Check.due("the night stays", x.has(6), 1);
        Check.due("again", x.tell(0, 1, 1), false);
    }

    /** "the TEST of tells holds for the other one (with that PAGE; without tells all may be told)." */
    private static void tellTests() {
        String text = "book b;page pa of b lines 7;page pb of b lines 8 big;reader ra pace 2 eyes 3;reader rb pace 4 eyes 5;"
                + "table ta draft 1;table tb draft 6;inch 30;tells ";
        String[] holds = {"lines=7", "print=0", "pace=4", "eyes=5", "knows=0", "draft=1", "sitting=2", "inch=30", "night=1", "all"};
        String[] not = {"lines=8", "print=1", "pace=2", "eyes=3", "knows=2", "draft=6", "sitting=1", "inch=60", "night=0", "not all"};
        for (int k = 0; k < holds.length; k++) {
            Check.due(holds[k], tellsWith(text + holds[k] + ";").tell(0, 1, 0), true);
            CandleInch x = tellsWith(text + not[k] + ";");
            Check.due(not[k], x.tell(0, 1, 0), false);
            Check.due("status(2)", x.status(2), 1);
            Check.due("has not heard of it", x.reader(1, 4), 0);
        }
        // knows counts what the other one knows now, ahead of hearing
        CandleInch y = tellsWith(text + "knows<1;");
        Check.due("knows none", y.tell(0, 1, 1), true);
        Check.due("knows one", y.tell(0, 1, 0), false);
    }

    private static CandleInch tellsWith(String text) {
        CandleInch x = Check.of(text);
        x.list(0, 0);
        x.list(0, 1);
        x.night();
        return x;
    }

    /** "(it leaves his LIST; if he left it off, that, too)." */
    private static void tellLeavesListAndLeftOff() {
        for (int told = 0; told < 3; told++) {
            CandleInch x = Check.of(Check.pages(3, 20) + "reader ra pace 9 eyes 0;reader rb pace 1 eyes 0;" + Check.tables(2)
                    + "burns 15;takes lines/pace;");
            for (int page = 0; page < 3; page++) {
                x.list(0, page);
                x.list(1, page);
            }
            x.seat(1, 1);
            x.night();
            x.seat(1, 0);
            Check.due("rb left pa off", x.reader(1, 6), 15);
            Check.due("tell", x.tell(0, 1, told), true);
            int[] list = told == 0 ? new int[] {1, 2} : told == 1 ? new int[] {0, 2} : new int[] {0, 1};
            Check.due("listed", x.reader(1, 7), 2);
            Check.due("listed", x.reader(1, 10), list[0]);
            Check.due("listed", x.reader(1, 11), list[1]);
            Check.due("listed", x.reader(1, 12), NONE);
            Check.due("left off", x.reader(1, 5), told == 0 ? NONE : 0);
            Check.due("into it", x.reader(1, 6), told == 0 ? 0 : 15);
        }
    }

    private static CandleInch atNight(int night, String text) {
        CandleInch x = Check.of(text);
        Check.due("on", Check.on(x, Check.checked(night >> 8, night & 255, 0, 0, 0)), true);
        return x;
    }

    /** "NIGHT is 0 at first, 999 at most": "NONE, refused (3), when there were 999." */
    private static void nightUpTo999() {
        CandleInch x = atNight(997, Check.tables(1));
        Check.due("998", x.night(), 0);
        Check.due("999", x.night(), 0);
        Check.due("999", x.has(6), 999);
        Check.refused("night()", () -> atNight(999, Check.tables(1)), CandleInch::night, NONE, 3);
        Check.due("refused", x.night(), NONE);
        Check.due("refused", x.night(), NONE);
        Check.due("status(3)", x.status(3), 2);
        Check.due("999 still", x.has(6), 999);
        x.undo();
        Check.due("998", x.has(6), 998);
        Check.due("999", x.night(), 0);
    }

    /** A night needs no readers and no tables. */
    private static void nightWithoutReaders() {
        CandleInch x = new CandleInch();
        Check.due("night", x.has(6), 0);
        Check.due("night", x.night(), 0);
        Check.due("night", x.has(6), 1);
        Check.due("acts", x.has(10), 1);
        Check.due("wax", x.has(7), 0);
        CandleInch y = Check.of(Check.tables(5));
        Check.due("winter", y.winter(2), 0);
        Check.due("night", y.has(6), 2);
        Check.due("wax", y.has(7), 0);
    }

    /** "n NIGHTS (1 .. 30) of a winter, one ACT: NONE, refused (3), when n can't be." */
    private static void winterFrom1To30() {
        int[] never = {Integer.MIN_VALUE, -30, -1, 0, 31, 32, 999, Integer.MAX_VALUE};
        for (int n : never) {
            Check.refused("winter(" + n + ")", ActsEdgesTest::some, x -> x.winter(n), NONE, 3);
        }
        for (int n = 1; n <= 30; n++) {
            CandleInch x = some();
            int acts = x.has(10);
            Check.due("winter(" + n + ")", x.winter(n) != NONE, true);
            Check.due("nights", x.has(6), 1 + n);
            Check.due("one act", x.has(10), acts + 1);
            long seed = 77;
            for (int k = 0; k < n; k++) {
                seed = next(seed);
            }
            Check.due("a draw each", x.has(11), seed);
        }
    }

    private static long next(long seed) {
        return (1103515245L * seed + 12345) % (1L << 31);
    }

    /** "beyond 999." */
    private static void winterUpTo999() {
        int[][] never = {{999, 1}, {998, 2}, {997, 3}, {970, 30}, {971, 29}, {989, 11}};
        for (int[] one : never) {
            Check.refused("winter(" + one[1] + ") at " + one[0], () -> atNight(one[0], Check.tables(2)), x -> x.winter(one[1]), NONE, 3);
            CandleInch x = atNight(one[0] - 1, Check.tables(2));
            Check.due("winter(" + one[1] + ") at " + (one[0] - 1), x.winter(one[1]), 0);
            Check.due("999", x.has(6), 999);
            Check.due("no more", x.winter(1), NONE);
            Check.due("no more", x.night(), NONE);
            Check.due("status(3)", x.status(3), 2);
        }
    }

    /** "or without TABLES." */
    private static void winterWithoutTables() {
        Check.refused("winter(1)", CandleInch::new, x -> x.winter(1), NONE, 3);
        Check.refused("winter(1)", () -> Check.of(Check.pages(2, 1)), x -> x.winter(1), NONE, 3);
        CandleInch x = Check.of(Check.tables(1));
        Check.due("with one", x.winter(1), 0);
        Check.due("status(3)", x.status(3), 0);
    }

    /** "a DRAW of the TABLES": "floor(x / 64) mod m". */
    private static void winterDrawsOfTheTables() {
        for (int tables = 1; tables <= 5; tables++) {
            StringBuilder text = new StringBuilder();
            for (int t = 0; t < tables; t++) {
                text.append("reader r").append((char) ('a' + t)).append(" pace ").append(t + 1).append(" eyes 0;");
            }
            CandleInch x = Check.of(text + Check.tables(tables) + "burns 10+draft*pace;");
            for (int t = 1; t < tables; t++) {
                x.seat(t, t);
            }
            long seed = 1;
            int wax = 0;
            boolean[] drawn = new boolean[tables];
            for (int k = 0; k < 40; k++) {
                seed = next(seed);
                int table = (int) (seed / 64 % tables);
                drawn[table] = true;
                wax += 10 * tables + 3 * (table + 1);
                x.winter(1);
                Check.due("seed", x.has(11), seed);
                Check.due("wax", x.has(7), wax);
            }
            for (boolean one : drawn) {
                Check.due("each was drawn", one, true);
            }
        }
    }

    /** "there the draft is 3 more in this NIGHT (12 at most)": for the inches and for the pages. */
    private static void winterDraftIsThreeMore() {
        for (int draft = 0; draft <= 9; draft++) {
            String text = Check.pages(2, 10) + Check.readers(1) + "table ta draft " + draft + ";takes lines+draft;burns 30+draft;";
            CandleInch x = Check.of(text);
            x.list(0, 0);
            Check.due("read", x.winter(1), 1);
            Check.due("wax", x.has(7), 30 + draft + 3 - (10 + draft + 3));
            Check.due("the draft is as it was", x.table(0, 0), draft);
            Check.due("takes", x.takes(0, 1), 10 + draft);
            Check.due("burns", x.burns(0), 30 + draft);
            x.winter(1);
            Check.due("wax", x.has(7), 20 + 30 + draft + 3);
            x.night();
            Check.due("in this night alone", x.has(7), 20 + 30 + draft + 3 + 30 + draft);
            // the page alone, by what is left off
            CandleInch y = Check.of(text.replace("takes lines+draft;burns 30+draft;", "takes lines+draft*10;burns 140;"));
            y.list(0, 0);
            y.list(0, 1);
            y.winter(1);
            int takes = 10 + 10 * (draft + 3);
            Check.due("read", y.reader(0, 3), takes * 2 <= 140 ? 3 : 1);
            Check.due("into it", y.reader(0, 6), takes * 2 <= 140 ? 0 : 140 - takes);
        }
        // none but the table drawn
        CandleInch z = Check.of(Check.readers(2) + "table ta draft 1;table tb draft 2;burns draft;");
        z.seat(1, 1);
        z.winter(1);
        Check.due("one of the two", z.has(7), 3 + 3);
    }

    /** A winter of n nights brings what n winters of one night bring, but for the acts. */
    private static void winterIsAsManyNights() {
        CandleInch x = winterly();
        CandleInch y = winterly();
        int read = 0;
        for (int k = 0; k < 7; k++) {
            read += y.winter(1);
        }
        Check.due("read", x.winter(7), read);
        Check.due("some were read", read > 4, true);
        List<Integer> state = Check.stateOf(x);
        Check.due("acts", state.set(10, 0), 10 + 1);
        List<Integer> other = Check.stateOf(y);
        Check.due("acts", other.set(10, 0), 10 + 7);
        Check.same("as many nights", state, other);
    }

    private static CandleInch winterly() {
        CandleInch x = Check.of(Check.pages(6, 40) + "needs pc pb;" + Check.readers(3) + "table ta draft 4;table tb draft 9;"
                + "burns 20-draft;takes lines+draft-night;");
        for (int k = 0; k < 3; k++) {
            x.list(0, k);
            x.list(1, 5 - k);
            x.list(2, 2 * k);
        }
        x.seat(2, 1);
        x.seed(2026);
        return x;
    }

    /** "The seed: true; false, refused (5), when it is below 0." */
    private static void seedFrom0() {
        int[] never = {-1, -2, -1000, Integer.MIN_VALUE};
        for (int seed : never) {
            Check.refused("seed(" + seed + ")", ActsEdgesTest::some, x -> Check.bit(x.seed(seed)), 0, 5);
        }
        int[] seeds = {0, 1, 2, 63, 64, 1 << 30, Integer.MAX_VALUE - 1, Integer.MAX_VALUE};
        CandleInch x = some();
        int acts = x.has(10);
        for (int seed : seeds) {
            Check.due("seed(" + seed + ")", x.seed(seed), true);
            Check.due("has(11)", x.has(11), seed);
        }
        Check.due("no act", x.has(10), acts);
        Check.due("status(5)", x.status(5), 0);
    }

    /** "x (the seed) becomes (1103515245 x + 12345) mod 2 to the 31." */
    private static void drawWrapsAround() {
        int[] seeds = {0, 1, 2, 3, 1 << 30, (1 << 30) - 1, Integer.MAX_VALUE - 1, Integer.MAX_VALUE, 4711, 1103527590};
        CandleInch x = Check.of(Check.tables(3));
        for (int seed : seeds) {
            x.seed(seed);
            x.winter(1);
            Check.due("behind " + seed, x.has(11), next(seed));
            x.winter(2);
            Check.due("behind " + seed, x.has(11), next(next(next(seed))));
        }
        Check.due("from 0 on", next(0), 12345);
    }

    private static void dueUndone(String act, ToIntFunction<CandleInch> call) {
        CandleInch x = some();
        x.list(1, 4);
        List<Integer> before = Check.stateOf(x);
        call.applyAsInt(x);
        Check.due(act + " changes something", Check.stateOf(x).equals(before), false);
        Check.due("undo of " + act, x.undo(), true);
        x.seed(77);
        Check.same("undone: " + act, Check.stateOf(x), before);
    }

    /** "The latest ACT is undone: all that ACTS change is as it was ahead of it." */
    private static void undoEach() {
        dueUndone("seat", x -> Check.bit(x.seat(0, 1)));
        dueUndone("list", x -> Check.bit(x.list(0, 3)));
        dueUndone("drop", x -> x.drop(0));
        dueUndone("drop of an empty one", x -> x.drop(2));
        dueUndone("tell", x -> Check.bit(x.tell(0, 1, 1)));
        dueUndone("night", CandleInch::night);
        dueUndone("winter", x -> x.winter(9));
        // the latest one first
        CandleInch x = some();
        x.list(2, 3);
        x.seat(2, 0);
        x.undo();
        Check.due("sits where he did", x.reader(2, 0), 1);
        Check.due("listed still", x.reader(2, 7), 1);
        x.undo();
        Check.due("listed no more", x.reader(2, 7), 0);
        // a call that is refused is no act
        x.list(2, 3);
        x.seat(9, 9);
        x.tell(0, 0, 0);
        x.winter(0);
        x.seed(5);
        Check.due("undo", x.undo(), true);
        Check.due("listed no more", x.reader(2, 7), 0);
    }

    /** "The last 20 can be undone": "10 ACTS that can be undone". */
    private static void undoTwenty() {
        for (int acts = 18; acts <= 23; acts++) {
            CandleInch x = Check.of(Check.tables(1));
            for (int k = 0; k < acts; k++) {
                x.night();
                Check.due("acts", x.has(10), Math.min(20, k + 1));
            }
            for (int k = 0; k < Math.min(20, acts); k++) {
                Check.due("undo", x.undo(), true);
                Check.due("night", x.has(6), acts - 1 - k);
                Check.due("acts", x.has(10), Math.min(20, acts) - 1 - k);
            }
            Check.due("none any more", x.undo(), false);
            Check.due("status(4)", x.status(4), 1);
            Check.due("night", x.has(6), Math.max(0, acts - 20));
        }
        // behind some that were undone there are as many again
        CandleInch x = Check.of(Check.tables(1));
        for (int k = 0; k < 30; k++) {
            x.night();
        }
        for (int k = 0; k < 7; k++) {
            x.undo();
        }
        Check.due("acts", x.has(10), 13);
        for (int k = 0; k < 7; k++) {
            x.winter(1);
        }
        Check.due("acts", x.has(10), 20);
        x.winter(2);
        Check.due("acts", x.has(10), 20);
        for (int k = 0; k < 20; k++) {
            Check.due("undo", x.undo(), true);
        }
        Check.due("none any more", x.undo(), false);
        Check.due("night", x.has(6), 11);
    }

    /** "false, refused (4), when none can be." */
    private static void undoOfNone() {
        Check.refused("undo()", CandleInch::new, x -> Check.bit(x.undo()), 0, 4);
        Check.refused("undo()", () -> {
            CandleInch x = Check.of(Check.pages(3, 4) + Check.readers(2) + Check.tables(1));
            x.list(0, 0);
            x.undo();
            return x;
        }, x -> Check.bit(x.undo()), 0, 4);
    }

    /** "(but the seed)." */
    private static void undoButTheSeed() {
        CandleInch x = some();
        x.winter(3);
        long seed = next(next(next(77)));
        Check.due("seed", x.has(11), seed);
        x.undo();
        Check.due("the seed stays", x.has(11), seed);
        x.seed(5);
        x.undo();
        Check.due("the seed stays", x.has(11), 5);
        Check.due("refusals stay", x.status(4), 0);
        x.seat(9, 9);
        x.undo();
        Check.due("refusals stay", x.status(2), 1);
    }

    /** "PAGES READ are KEPT: NIGHT (from 1 on), READER, PAGE, by READERS, then as they were read." */
    private static void keptByReaders() {
        CandleInch x = Check.of(Check.pages(4, 10) + Check.readers(3) + Check.tables(3) + "burns 25;");
        x.seat(1, 1);
        x.seat(2, 2);
        int[][] lists = {{3, 2, 1}, {}, {0, 1, 2}};
        for (int r = 0; r < 3; r++) {
            for (int page : lists[r]) {
                x.list(r, page);
            }
        }
        Check.due("none yet", x.has(8), 0);
        Check.due("night", x.night(), 4);
        x.night();
        int[][] due = {{1, 0, 3}, {1, 0, 2}, {1, 2, 0}, {1, 2, 1}, {2, 0, 1}, {2, 2, 2}};
        Check.due("kept", x.has(8), 6);
        for (int k = 0; k < due.length; k++) {
            for (int what = 0; what < 3; what++) {
                Check.due("kept(" + k + ", " + what + ")", x.kept(k, what), due[k][what]);
            }
        }
        // what is told or left off is not kept
        x.seat(1, 0);
        x.tell(0, 1, 3);
        Check.due("kept", x.has(8), 6);
        // the last night there is
        CandleInch y = Check.of(Check.pages(14, 1) + Check.readers(6) + Check.tables(1));
        int[] image = new int[4 + 6 * 9 + 1];
        image[0] = 998 >> 8;
        image[1] = 998 & 255;
        Check.due("on", Check.on(y, Check.checked(image)), true);
        y.list(5, 13);
        y.night();
        Check.due("night 999", y.kept(0, 0), 999);
        Check.due("reader 5", y.kept(0, 1), 5);
        Check.due("page 13", y.kept(0, 2), 13);
    }

    private static CandleInch reads(int pages) {
        CandleInch x = Check.of(Check.pages(14, 1) + Check.readers(6) + Check.tables(1));
        int listed = 0;
        for (int round = 0; round < 2; round++) {
            for (int r = 0; r < 6; r++) {
                for (int p = 8 * round; p < Math.min(14, 8 + 8 * round) && listed < pages; p++) {
                    x.list(r, p);
                    listed++;
                }
            }
            x.night();
        }
        return x;
    }

    /** "(the last 60 are told)": "8 PAGES that are told as KEPT". */
    private static void keptTheLastSixty() {
        for (int pages = 58; pages <= 64; pages++) {
            CandleInch x = reads(pages);
            Check.due("known", x.has(9), pages);
            Check.due("kept of " + pages, x.has(8), Math.min(60, pages));
            int first = Math.max(0, pages - 60);
            Check.due("the oldest one's night", x.kept(0, 0), 1);
            Check.due("the oldest one's reader", x.kept(0, 1), 0);
            Check.due("the oldest one's page", x.kept(0, 2), first);
            int last = Math.min(60, pages) - 1;
            Check.due("the newest one's night", x.kept(last, 0), 2);
            Check.due("the newest one's reader", x.kept(last, 1), (pages - 49) / 6);
            Check.due("the newest one's page", x.kept(last, 2), 8 + (pages - 49) % 6);
            Check.due("none behind it", x.kept(last + 1, 0), NONE);
            // those that were told no more are told again when the night is undone
            x.undo();
            Check.due("kept", x.has(8), 48);
            Check.due("the oldest one's page", x.kept(0, 2), 0);
            Check.due("the newest one's reader", x.kept(47, 1), 5);
        }
        // as many as there may be
        CandleInch x = reads(84);
        Check.due("known", x.has(9), 84);
        Check.due("kept", x.has(8), 60);
        Check.due("the oldest one's reader", x.kept(0, 1), 3);
        Check.due("the newest one's page", x.kept(59, 2), 13);
    }

    /** "NONE when there is none such, or for others." */
    private static void keptNoneSuch() {
        CandleInch x = some();
        Check.due("two are kept", x.has(8), 2);
        Check.due("kept(1, 2)", x.kept(1, 2), 1);
        int[] never = {-1, 2, 3, 60, Integer.MIN_VALUE, Integer.MAX_VALUE};
        for (int k : never) {
            Check.due("kept(" + k + ", 0)", x.kept(k, 0), NONE);
        }
        int[] others = {-1, 3, 4, Integer.MIN_VALUE, Integer.MAX_VALUE};
        for (int what : others) {
            Check.due("kept(0, " + what + ")", x.kept(0, what), NONE);
        }
        Check.due("without any", new CandleInch().kept(0, 0), NONE);
    }

    /** "7 WAX (9999 at most is told, and kept)." */
    private static void waxUpTo9999() {
        for (int more = 0; more <= 4; more++) {
            CandleInch x = Check.of(Check.readers(1) + Check.tables(1) + "burns " + more + ";");
            Check.due("on", Check.on(x, Check.checked(0, 0, 9997 >> 8, 9997 & 255, 0, 0, 0, 0, 0, 0, 0, 0, 0, 0)), true);
            x.night();
            Check.due("wax", x.has(7), Math.min(9999, 9997 + more));
            x.night();
            Check.due("wax", x.has(7), Math.min(9999, 9997 + 2 * more));
            x.image();
            Check.due("in the image", x.octet(2) * 256 + x.octet(3), Math.min(9999, 9997 + 2 * more));
            x.undo();
            Check.due("wax", x.has(7), Math.min(9999, 9997 + more));
            x.winter(30);
            Check.due("wax", x.has(7), more == 0 ? 9997 : 9999);
            Check.due("light is told whole", x.whole(2), more);
        }
    }

    /** Only feed(), end(), library() and on() have to do with the tape: taken or refused, acts leave it. */
    private static void tapeStays() {
        CandleInch x = some();
        Check.feedBytes(x, Check.bytesOf("inch 55;"));
        x.seat(9, 9);
        x.seat(0, 1);
        x.list(0, 9);
        x.list(0, 3);
        x.drop(9);
        x.drop(0);
        x.tell(0, 0, 0);
        x.winter(0);
        x.winter(1);
        x.night();
        x.undo();
        x.seed(-1);
        x.image();
        x.work(0, 1, 0);
        Check.due("end", x.end(9), false);
        Check.due("end", x.end(8), true);
        Check.due("library", x.library(), 1);
        Check.due("inch", x.has(5), 55);
    }
}
