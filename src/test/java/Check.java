/** What all tests of the project use: due answers are counted, texts are fed. */
final class Check {
    private static int wrong = 0;
    private static int calls = 0;

    private Check() {
    }

    static void due(String what, long got, long want) {
        calls++;
        if (got != want) {
            wrong++;
            System.out.println(what + " answered " + got + ", due is " + want);
        }
    }

    static void due(String what, boolean got, boolean want) {
        due(what, got ? 1L : 0L, want ? 1L : 0L);
    }

    /** Puts bytes on a tape that had some already or none. */
    static void feedBytes(CandleInch x, int[] bytes) {
        int before = 0;
        for (int from = 0; from < bytes.length; from += 20) {
            int[] five = new int[5];
            for (int k = 0; k < 20; k++) {
                int b = from + k < bytes.length ? bytes[from + k] : 32;
                five[k / 4] = (five[k / 4] << 8) | b;
            }
            before = x.feed(five[0], five[1], five[2], five[3], five[4]);
        }
        if (bytes.length % 20 != 0) {
            x.end(before - 20 + bytes.length % 20);
        }
    }

    static int[] bytesOf(String text) {
        int[] bytes = new int[text.length()];
        for (int k = 0; k < bytes.length; k++) {
            bytes[k] = text.charAt(k);
        }
        return bytes;
    }

    static int tell(CandleInch x, String text) {
        x.end(0);
        feedBytes(x, bytesOf(text));
        return x.library();
    }

    /** A new object with a library that has no fault. */
    static CandleInch of(String text) {
        CandleInch x = new CandleInch();
        if (tell(x, text) == CandleInch.NONE) {
            due("the library '" + text + "' has fault " + x.fault(0) + " at " + x.fault(1), 1, 0);
        }
        return x;
    }

    static void fault(String text, int fault, int place) {
        CandleInch x = new CandleInch();
        due("library() of '" + text + "'", tell(x, text), CandleInch.NONE);
        due("fault(0) of '" + text + "'", x.fault(0), fault);
        due("fault(1) of '" + text + "'", x.fault(1), place);
        due("status(1) of '" + text + "'", x.status(1), 1);
    }

    /** The latest image of an object. */
    static int[] imageOf(CandleInch x) {
        int[] bytes = new int[x.image()];
        for (int k = 0; k < bytes.length; k++) {
            bytes[k] = x.octet(k);
        }
        return bytes;
    }

    /** The last byte is made to fit those ahead of it. */
    static int[] checked(int... bytes) {
        int c = 83;
        for (int k = 0; k < bytes.length - 1; k++) {
            c = (5 * c + bytes[k]) % 251;
        }
        bytes[bytes.length - 1] = c;
        return bytes;
    }

    static boolean on(CandleInch x, int... bytes) {
        x.end(0);
        feedBytes(x, bytes);
        return x.on();
    }

    static String times(String text, int n) {
        return text.repeat(n);
    }

    static void close(String name) {
        System.out.println(name + ": " + (wrong == 0 ? calls + " answers are as due" : wrong + " of " + calls + " answers are not as due"));
        if (wrong != 0) {
            System.exit(1);
        }
    }
}
