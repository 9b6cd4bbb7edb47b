import java.util.ArrayList;
import java.util.List;
import java.util.function.Supplier;
import java.util.function.ToIntFunction;

/** What all tests of the project use: due answers are counted, texts are fed. */
final class Check {
    private static int wrong = 0;
    private static int calls = 0;

    private Check() {
    }

    static void due(String what, long got, long want) {
        calls++;
        if (got != want) {
            wrong++;
            System.out.println(what + " answered " + got + ", due is " + want);
        }
    }

    static void due(String what, boolean got, boolean want) {
        due(what, got ? 1L : 0L, want ? 1L : 0L);
    }

    /** Puts bytes on a tape that had some already or none. */
    static void feedBytes(CandleInch x, int[] bytes) {
        int before = 0;
        for (int from = 0; from < bytes.length; from += 20) {
            int[] five = new int[5];
            for (int k = 0; k < 20; k++) {
                int b = from + k < bytes.length ? bytes[from + k] : 32;
                five[k / 4] = (five[k / 4] << 8) | b;
            }
            before = x.feed(five[0], five[1], five[2], five[3], five[4]);
        }
        if (bytes.length % 20 != 0) {
            x.end(before - 20 + bytes.length % 20);
        }
    }

    static int[] bytesOf(String text) {
        int[] bytes = new int[text.length()];
        for (int k = 0; k < bytes.length; k++) {
            bytes[k] = text.charAt(k);
        }
        return bytes;
    }

    static int tell(CandleInch x, String text) {
        x.end(0);
        feedBytes(x, bytesOf(text));
        return x.library();
    }

    /** A new object with a library that has no fault. */
    static CandleInch of(String text) {
        CandleInch x = new CandleInch();
        if (tell(x, text) == CandleInch.NONE) {
            due("the library '" + text + "' has fault " + x.fault(0) + " at " + x.fault(1), 1, 0);
        }
        return x;
    }

    static void fault(String text, int fault, int place) {
        CandleInch x = new CandleInch();
        due("library() of '" + text + "'", tell(x, text), CandleInch.NONE);
        due("fault(0) of '" + text + "'", x.fault(0), fault);
        due("fault(1) of '" + text + "'", x.fault(1), place);
        due("status(1) of '" + text + "'", x.status(1), 1);
    }

    /** All that can be looked at but the tape, the fault and the counts of refusals: some 20 calls and 22 a reader. */
    static List<Integer> stateOf(CandleInch x) {
        List<Integer> state = new ArrayList<>();
        for (int what = 0; what < 12; what++) {
            state.add(x.has(what));
        }
        for (int r = 0; r < state.get(3); r++) {
            for (int what = 0; what < 11 + x.reader(r, 7); what++) {
                state.add(x.reader(r, what));
            }
            state.add(x.burns(r));
            state.add(x.takes(r, 0));
        }
        for (int p = 0; p < state.get(1); p++) {
            for (int what = 0; what < 5; what++) {
                state.add(x.page(p, what));
            }
        }
        for (int t = 0; t < state.get(4); t++) {
            state.add(x.table(t, 0));
        }
        for (int k = 0; k < state.get(8); k++) {
            for (int what = 0; what < 3; what++) {
                state.add(x.kept(k, what));
            }
        }
        for (int k = 0; k < 5; k++) {
            state.add(x.octet(k));
        }
        return state;
    }

    static void same(String what, List<Integer> got, List<Integer> want) {
        due(what + ": " + got + " for " + want, got.equals(want), true);
    }

    /** A call that is refused has its answer, counts one more of its sort, and all else stays. */
    static void refused(String why, Supplier<CandleInch> made, ToIntFunction<CandleInch> call, int answer, int sort) {
        CandleInch x = made.get();
        List<Integer> before = stateOf(x);
        int[] counts = countsOf(x);
        due(why, call.applyAsInt(x), answer);
        counts[sort]++;
        int[] after = countsOf(x);
        for (int k = 0; k < counts.length; k++) {
            due(why + ": status(" + k + ")", after[k], counts[k]);
        }
        same(why + ": all stays", stateOf(x), before);
    }

    static int[] countsOf(CandleInch x) {
        int[] counts = new int[6];
        for (int k = 0; k < counts.length; k++) {
            counts[k] = x.status(k);
        }
        return counts;
    }

    static int bit(boolean answer) {
        return answer ? 1 : 0;
    }

    /** A text's library must be taken. */
    static void fine(String text, int statements) {
        CandleInch x = new CandleInch();
        due("library() of '" + text + "'", tell(x, text), statements);
        due("fault(0) of '" + text + "'", x.fault(0), 0);
        due("fault(1) of '" + text + "'", x.fault(1), CandleInch.NONE);
        due("status(1) of '" + text + "'", x.status(1), 0);
    }

    /** A book b, n pages pa, pb .. of so many lines. */
    static String pages(int n, int lines) {
        StringBuilder s = new StringBuilder("book b;");
        for (int k = 0; k < n; k++) {
            s.append("page p").append((char) ('a' + k)).append(" of b lines ").append(lines).append(';');
        }
        return s.toString();
    }

    /** n readers ra, rb .. of pace 1 and eyes 0. */
    static String readers(int n) {
        StringBuilder s = new StringBuilder();
        for (int k = 0; k < n; k++) {
            s.append("reader r").append((char) ('a' + k)).append(" pace 1 eyes 0;");
        }
        return s.toString();
    }

    /** n tables ta, tb .. of no draft. */
    static String tables(int n) {
        StringBuilder s = new StringBuilder();
        for (int k = 0; k < n; k++) {
            s.append("table t").append((char) ('a' + k)).append(" draft 0;");
        }
        return s.toString();
    }

    /** The latest image of an object. */
    static int[] imageOf(CandleInch x) {
        int[] bytes = new int[x.image()];
        for (int k = 0; k < bytes.length; k++) {
            bytes[k] = x.octet(k);
        }
        return bytes;
    }

    /** The last byte is made to fit those ahead of it. */
    static int[] checked(int... bytes) {
        int c = 83;
        for (int k = 0; k < bytes.length - 1; k++) {
            c = (5 * c + bytes[k]) % 251;
        }
        bytes[bytes.length - 1] = c;
        return bytes;
    }

    static boolean on(CandleInch x, int... bytes) {
        x.end(0);
        feedBytes(x, bytes);
        return x.on();
    }

    static String times(String text, int n) {
        return text.repeat(n);
    }

    static void close(String name) {
        System.out.println(name + ": " + (wrong == 0 ? calls + " answers are as due" : wrong + " of " + calls + " answers are not as due"));
        if (wrong != 0) {
            System.exit(1);
        }
    }
}
