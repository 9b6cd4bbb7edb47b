import java.util.ArrayList;
import java.util.List;
import java.util.Random;

/** Runs of calls by fixed seeds: the class and the model must answer alike. */
public final class ModelTest {
    private final Random random;
    private final int run;
    private CandleInch x = new CandleInch();
    private Model m = new Model();
    private int calls = 0;
    /** Of the object at hand; behind its 512th call nothing is promised. */
    private int used = 0;

    private ModelTest(int run) {
        this.run = run;
        this.random = new Random(1000003L * run + 17);
    }

    public static void main(String[] args) {
        int from = args.length > 0 ? Integer.parseInt(args[0]) : 0;
        int runs = args.length > 1 ? Integer.parseInt(args[1]) : 2000;
        for (int run = from; run < from + runs; run++) {
            new ModelTest(run).go();
        }
        Check.close("ModelTest");
    }

    private void go() {
        int texts = 1 + random.nextInt(3);
        for (int t = 0; t < texts; t++) {
            String text = text();
            if (random.nextInt(4) == 0) {
                text = spoilt(text);
            }
            tell(text);
            if (m.fault(0) != 0 && random.nextInt(3) > 0) {
                tell(text());
            }
            int n = random.nextInt(120);
            for (int k = 0; k < n && hasRoom(260); k++) {
                step();
            }
            for (int k = 0; k < 100 && hasRoom(1); k++) {
                look();
            }
        }
        for (int k = 0; k < 3; k++) {
            tell(spoilt(text()));
            tell(squeezed(text()));
        }
        if (chance(5)) {
            tell(crowded());
        }
        Check.due("run " + run + ": calls beyond 512", Math.max(0, used - 512), 0);
    }

    private boolean hasRoom(int more) {
        return used + more <= 512;
    }

    private int pick(int n) {
        return random.nextInt(n);
    }

    private boolean chance(int percent) {
        return random.nextInt(100) < percent;
    }

    private void due(String call, long got, long want) {
        calls++;
        used++;
        Check.due("run " + run + ", call " + calls + ": " + call, got, want);
    }

    private void due(String call, boolean got, boolean want) {
        due(call, got ? 1 : 0, want ? 1 : 0);
    }

    // ---- texts

    private String text() {
        List<String> told = new ArrayList<>();
        int books = 1 + pick(3);
        for (int b = 0; b < books; b++) {
            told.add("book b" + (char) ('a' + b));
        }
        int pages = pick(10) == 0 ? 14 : pick(9);
        for (int p = 0; p < pages; p++) {
            told.add("page p" + (char) ('a' + p) + " of b" + (char) ('a' + pick(books)) + " lines " + (1 + pick(chance(30) ? 99 : 20))
                    + (chance(30) ? " big" : ""));
        }
        boolean[][] needs = new boolean[14][14];
        int wanted = pages < 2 ? 0 : pick(chance(30) ? 21 : 7);
        for (int k = 0; k < wanted; k++) {
            int a = 1 + pick(pages - 1);
            int b = pick(a);
            if (!needs[a][b]) {
                needs[a][b] = true;
                told.add("needs p" + (char) ('a' + a) + " p" + (char) ('a' + b));
            }
        }
        int readers = chance(10) ? 0 : 1 + pick(chance(10) ? 6 : 4);
        for (int r = 0; r < readers; r++) {
            told.add("reader r" + (char) ('a' + r) + " pace " + (1 + pick(9)) + " eyes " + pick(10));
        }
        int tables = (readers == 0 && chance(30)) ? 0 : 1 + pick(readers > 4 ? 3 : 4);
        for (int t = 0; t < tables; t++) {
            told.add("table t" + (char) ('a' + t) + " draft " + pick(10));
        }
        if (chance(70)) {
            told.add("inch " + (10 + pick(chance(60) ? 20 : 111)));
        }
        if (chance(70)) {
            told.add("burns " + (chance(50) ? "inch-draft" + "+*-/".charAt(pick(4)) : "") + sum(2));
        }
        if (chance(70)) {
            told.add("takes " + (chance(50) ? "lines/pace" + "+*-/".charAt(pick(4)) : "") + sum(2));
        }
        if (chance(70)) {
            told.add("tells " + test(2));
        }
        StringBuilder s = new StringBuilder();
        for (String statement : told) {
            s.append(statement).append(chance(5) ? " \n;" : ";");
        }
        return s.length() <= 1600 ? s.toString() : s.substring(0, 1600);
    }

    private String sum(int depth) {
        StringBuilder s = new StringBuilder(product(depth));
        for (int k = pick(3); k > 0; k--) {
            s.append(chance(50) ? "+" : "-").append(product(depth));
        }
        return s.toString();
    }

    private String product(int depth) {
        StringBuilder s = new StringBuilder(part(depth));
        for (int k = pick(5) / 2; k > 0; k--) {
            s.append("*/%".charAt(pick(3))).append(part(depth));
        }
        return s.toString();
    }

    private String part(int depth) {
        String[] words = {"lines", "print", "pace", "eyes", "knows", "draft", "sitting", "inch", "night"};
        int which = pick(10);
        if (which < 2) {
            return "" + pick(chance(20) ? 10000 : 12);
        }
        if (which < 7 || depth == 0) {
            return words[pick(words.length)];
        }
        if (which == 7) {
            return "(" + sum(depth - 1) + ")";
        }
        return (chance(50) ? "min(" : "max(") + sum(depth - 1) + "," + sum(depth - 1) + ")";
    }

    private String test(int depth) {
        StringBuilder s = new StringBuilder(both(depth));
        for (int k = pick(3) / 2; k > 0; k--) {
            s.append(" or ").append(both(depth));
        }
        return s.toString();
    }

    private String both(int depth) {
        StringBuilder s = new StringBuilder(fact(depth));
        for (int k = pick(3) / 2; k > 0; k--) {
            s.append(" and ").append(fact(depth));
        }
        return s.toString();
    }

    private String fact(int depth) {
        int which = pick(10);
        if (which < 2) {
            return "all";
        }
        if (which == 2 && depth > 0) {
            return "not " + fact(depth - 1);
        }
        if (which == 3 && depth > 0) {
            return "[" + test(depth - 1) + "]";
        }
        return sum(1) + "<>=".charAt(pick(3)) + sum(1);
    }

    private String spoilt(String text) {
        StringBuilder s = new StringBuilder(text);
        String[] bits = {";", " ", "\n", "(", ")", "[", "]", "not ", "all", "5", "12345", "abcdefg", "big", " big", "book",
            "book x;", "page ", "pa", "ra", "ta", ",", "+", "<", "inch 9;", "inch 50;", "burns 1;", "needs pb pa;", "\t", "A",
            "sitting", "min(", "((((((((", "not not not not ", "table z draft 1;", "\377", "\0", "0", "00000", "a"};
        for (int k = 1 + pick(2); k > 0; k--) {
            int at = pick(s.length() + 1);
            switch (pick(5)) {
                case 0: s.setLength(at); break;
                case 1: s.insert(at, bits[pick(bits.length)]); break;
                case 2: s.delete(at, Math.min(s.length(), at + 1 + pick(3))); break;
                case 3: if (at < s.length()) s.setCharAt(at, (char) (chance(80) ? 32 + pick(95) : pick(256))); break;
                default: s.insert(at, s.substring(pick(at + 1), at)); break;
            }
        }
        return s.length() <= 1600 ? s.toString() : s.substring(0, 1600);
    }

    /** Blanks left out here and there, and words and numbers made longer, so that several faults lie close together. */
    private String squeezed(String text) {
        StringBuilder s = new StringBuilder();
        int from = pick(text.length() + 1);
        for (int k = 0; k < text.length(); k++) {
            char c = text.charAt(k);
            if (k < from || c != ' ' || chance(70)) {
                s.append(c);
            }
            if (k >= from && chance(5)) {
                s.append(chance(50) ? "abcdefgh".substring(pick(8)) : "123456".substring(pick(6)));
            }
        }
        return s.length() <= 1600 ? s.toString() : s.substring(0, 1600);
    }

    /** Some 80 statements, and something behind them. */
    private String crowded() {
        String[] behind = {"", " ", ";", "inch", "inch 20;", "x", "abcdefgh", "12345", "book a;", "(", "inch99999", "\n\n7seven"};
        return Check.times("inch 10;", 78 + pick(3)) + behind[pick(behind.length)] + behind[pick(behind.length)];
    }

    private void feedBoth(int[] bytes) {
        due("end(0)", x.end(0), m.end(0));
        int length = 0;
        for (int from = 0; from < bytes.length; from += 20) {
            int[] five = new int[5];
            for (int k = 0; k < 20; k++) {
                five[k / 4] = (five[k / 4] << 8) | (from + k < bytes.length ? bytes[from + k] : 32);
            }
            length = m.feed(five[0], five[1], five[2], five[3], five[4]);
            due("feed", x.feed(five[0], five[1], five[2], five[3], five[4]), length);
        }
        due("end", x.end(bytes.length), m.end(bytes.length));
    }

    private void tell(String text) {
        if (!hasRoom(6 + text.length() / 20)) {
            Check.due("run " + run + ": calls beyond 512", Math.max(0, used - 512), 0);
            x = new CandleInch();
            m = new Model();
            used = 0;
        }
        feedBoth(Check.bytesOf(text));
        int got = x.library();
        int want = m.library();
        due("library of '" + text + "'", got, want);
        due("fault(0) of '" + text + "'", x.fault(0), m.fault(0));
        due("fault(1) of '" + text + "'", x.fault(1), m.fault(1));
    }

    // ---- calls

    private int someReader() {
        return chance(4) ? pick(9) - 2 : pick(Math.max(1, m.has(3)));
    }

    private int somePage() {
        return chance(4) ? pick(18) - 2 : pick(Math.max(1, m.has(1)));
    }

    private int someTable() {
        return chance(4) ? pick(8) - 2 : pick(Math.max(1, m.has(4)));
    }

    private int someQuestion() {
        return chance(4) ? pick(40000) - 5000 : pick(1 << m.has(1));
    }

    private void step() {
        int r = someReader();
        int p = somePage();
        switch (pick(16)) {
            case 0: case 1: {
                int t = someTable();
                due("seat(" + r + ", " + t + ")", x.seat(r, t), m.seat(r, t));
                break;
            }
            case 2: case 3: case 4: case 5: due("list(" + r + ", " + p + ")", x.list(r, p), m.list(r, p)); break;
            case 6: if (chance(30)) due("drop(" + r + ")", x.drop(r), m.drop(r)); break;
            case 7: case 8: {
                for (int k = 0; k < 6; k++) {
                    int to = someReader();
                    int page = somePage();
                    due("tell(" + r + ", " + to + ", " + page + ")", x.tell(r, to, page), m.tell(r, to, page));
                }
                break;
            }
            case 9: case 10: due("night()", x.night(), m.night()); break;
            case 11: {
                int n = chance(60) ? 1 + pick(3) : pick(34) - 1;
                due("winter(" + n + ")", x.winter(n), m.winter(n));
                break;
            }
            case 12: for (int k = chance(10) ? 25 : pick(4); k > 0; k--) due("undo()", x.undo(), m.undo()); break;
            case 13: {
                int seed = chance(20) ? -1 - pick(9) : random.nextInt() & Integer.MAX_VALUE;
                if (chance(30)) due("seed(" + seed + ")", x.seed(seed), m.seed(seed));
                break;
            }
            case 14: pictures(); break;
            default: questions(); break;
        }
        for (int k = pick(5); k > 0; k--) {
            look();
        }
    }

    private void pictures() {
        due("image()", x.image(), m.image());
        int n = m.image();
        int[] bytes = new int[n];
        for (int k = 0; k < n; k++) {
            bytes[k] = m.octet(k);
            due("octet(" + k + ")", x.octet(k), bytes[k]);
        }
        due("octet(-1)", x.octet(-1), m.octet(-1));
        due("octet(n)", x.octet(n), m.octet(n));
        if (chance(40)) {
            for (int k = pick(4); k > 0; k--) {
                int at = pick(n);
                bytes[at] = chance(70) ? pick(4) : pick(256);
            }
            if (chance(90)) {
                Check.checked(bytes);
            }
            if (chance(10)) {
                bytes = java.util.Arrays.copyOf(bytes, pick(n + 3));
            }
            feedBoth(bytes);
            due("on()", x.on(), m.on());
        }
    }

    private void questions() {
        int r = someReader();
        int q = someQuestion();
        for (int what = -1; what < 4; what++) {
            due("work(" + r + ", " + q + ", " + what + ")", x.work(r, q, what), m.work(r, q, what));
        }
        due("scholar(" + q + ")", x.scholar(q), m.scholar(q));
        for (int what = 0; what < 2; what++) {
            due("index(" + q + ", " + what + ")", x.index(q, what), m.index(q, what));
        }
        due("index(" + q + ", 2)", x.index(q, 2), -1);
        int n = chance(80) ? pick(6) : pick(105) - 3;
        for (int what = 0; what < 3; what++) {
            due("most(" + r + ", " + n + ", " + what + ")", x.most(r, n, what), m.most(r, n, what));
            int minutes = chance(5) ? -1 : pick(chance(50) ? 20 : 120);
            due("wax(" + r + ", " + minutes + ", " + what + ")", x.wax(r, minutes, what), m.wax(r, minutes, what));
        }
        int few = q & someQuestion();
        due("shared(" + few + ")", x.shared(few, -1), m.shared(few, -1));
        due("shared(" + few + ", 20)", x.shared(few, 20), m.shared(few, 20));
        int k = somePage();
        due("shared(" + few + ", " + k + ")", x.shared(few, k), m.shared(few, k));
        int ways = (int) Math.pow(m.has(4), m.has(3));
        if (ways < 300 || chance(3)) {
            due("seated(-1)", x.seated(-1), m.seated(-1));
            due("seated(20)", x.seated(20), m.seated(20));
            for (int who = -2; who <= m.has(3); who++) {
                due("seated(" + who + ")", x.seated(who), m.seated(who));
            }
        }
    }

    /** One of all that can be looked at. */
    private void look() {
        int r = someReader();
        int p = somePage();
        int t = someTable();
        int what = pick(8) - 1;
        switch (pick(12)) {
            case 0: due("tonight(" + r + ", " + what + ")", x.tonight(r, what), m.tonight(r, what)); break;
            case 1: due("whole(" + what + ")", x.whole(what), m.whole(what)); break;
            case 2: due("has(" + 2 * what + ")", x.has(2 * what), m.has(2 * what)); break;
            case 3: due("has(" + (2 * what + 1) + ")", x.has(2 * what + 1), m.has(2 * what + 1)); break;
            case 4: due("reader(" + r + ", " + what + ")", x.reader(r, what), m.reader(r, what)); break;
            case 5: due("reader(" + r + ", " + (what + 11) + ")", x.reader(r, what + 11), m.reader(r, what + 11)); break;
            case 6: due("status(" + what + ")", x.status(what), m.status(what)); break;
            case 7: due("page(" + p + ", " + what + ")", x.page(p, what), m.page(p, what)); break;
            case 8: due("table(" + t + ", " + what + ")", x.table(t, what), m.table(t, what)); break;
            case 9: due("burns(" + r + ")", x.burns(r), m.burns(r)); break;
            case 10: due("takes(" + r + ", " + p + ")", x.takes(r, p), m.takes(r, p)); break;
            default: names(); break;
        }
    }

    private void names() {
        if (chance(50)) {
            int k = pick(Math.max(1, m.has(8)) + 2) - 1;
            int what = chance(90) ? pick(3) : pick(6) - 1;
            due("kept(" + k + ", " + what + ")", x.kept(k, what), m.kept(k, what));
        } else {
            int kind = pick(6) - 1;
            int which = pick(16) - 1;
            int k = pick(8) - 1;
            due("letter(" + kind + ", " + which + ", " + k + ")", x.letter(kind, which, k), m.letter(kind, which, k));
        }
    }
}
