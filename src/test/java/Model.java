import java.util.ArrayList;
import java.util.Arrays;
import java.util.HashSet;
import java.util.List;
import java.util.Set;

/** The document once more, as plainly as can be: minute by minute, and by trying all there is. */
final class Model {
    static final int NONE = -1;
    static final Set<String> OWN = new HashSet<>(Arrays.asList("book", "page", "of", "lines", "big", "needs",
            "reader", "pace", "eyes", "table", "draft", "inch", "burns", "takes", "tells", "print", "knows",
            "sitting", "night", "or", "and", "not", "all", "min", "max"));

    /** Whom and what a rule is asked of. */
    static final class Asked {
        int lines, print, pace, eyes, knows, draft, sitting, inch, night;
    }

    interface Sum {
        long of(Asked a);
    }

    interface Test {
        boolean of(Asked a);
    }

    static final class Fault extends RuntimeException {
        private static final long serialVersionUID = 1L;
        final int kind;
        final int place;

        Fault(int kind, int place) {
            this.kind = kind;
            this.place = place;
        }
    }

    static final class Page {
        String name;
        int book, lines;
        boolean big;
        Set<Integer> needs = new HashSet<>();
    }

    static final class Text {
        List<String> books = new ArrayList<>();
        List<Page> pages = new ArrayList<>();
        List<String> readers = new ArrayList<>();
        List<Integer> pace = new ArrayList<>();
        List<Integer> eyes = new ArrayList<>();
        List<String> tables = new ArrayList<>();
        List<Integer> draft = new ArrayList<>();
        Set<String> names = new HashSet<>();
        int needs = 0, inch = 60, told = 0;
        Sum burns, takes;
        Test tells;
    }

    static final class Token {
        String text;
        int at;
        boolean glued;
    }

    /** The words of a text one by one; a fault within a word is told when the word is looked at. */
    static final class Reading {
        final String text;
        final List<Token> tokens = new ArrayList<>();
        int next = 0;
        int open = 0;
        Text into = new Text();

        Reading(String text) {
            this.text = text;
            int i = 0;
            while (i < text.length()) {
                char c = text.charAt(i);
                int j = i + 1;
                if (c == ' ' || c == '\n') {
                    i = j;
                    continue;
                }
                if (letter(c)) {
                    while (j < text.length() && letter(text.charAt(j))) j++;
                } else if (digit(c)) {
                    while (j < text.length() && digit(text.charAt(j))) j++;
                }
                Token t = new Token();
                t.text = text.substring(i, j);
                t.at = i;
                t.glued = i > 0 && (letter(c) || digit(c)) && (letter(text.charAt(i - 1)) || digit(text.charAt(i - 1)));
                tokens.add(t);
                i = j;
            }
        }

        static boolean letter(char c) {
            return c >= 'a' && c <= 'z';
        }

        static boolean digit(char c) {
            return c >= '0' && c <= '9';
        }

        /** The word that is next, whole; the empty text at the end. */
        String see() {
            if (next == tokens.size()) return "";
            Token t = tokens.get(next);
            if (t.glued) throw new Fault(1, t.at);
            if (letter(t.text.charAt(0)) && t.text.length() > 6 && !OWN.contains(t.text)) throw new Fault(1, t.at + 6);
            if (digit(t.text.charAt(0)) && t.text.length() > 4) throw new Fault(1, t.at + 4);
            return t.text;
        }

        int at() {
            return next == tokens.size() ? text.length() : tokens.get(next).at;
        }

        boolean is(String word) {
            return see().equals(word);
        }

        void want(String word) {
            if (!is(word)) throw new Fault(1, at());
            next++;
        }

        boolean seesName() {
            String s = see();
            return !s.isEmpty() && letter(s.charAt(0)) && !OWN.contains(s);
        }

        boolean seesNumber() {
            String s = see();
            return !s.isEmpty() && digit(s.charAt(0));
        }

        String given() {
            if (!seesName()) throw new Fault(1, at());
            if (!into.names.add(see())) throw new Fault(2, at());
            return tokens.get(next++).text;
        }

        int number(int low, int high) {
            if (!seesNumber()) throw new Fault(1, at());
            int n = Integer.parseInt(see());
            if (n < low || n > high) throw new Fault(4, at());
            next++;
            return n;
        }

        int pageNamed() {
            if (!seesName()) throw new Fault(1, at());
            for (int p = 0; p < into.pages.size(); p++) {
                if (into.pages.get(p).name.equals(see())) return p;
            }
            throw new Fault(3, at());
        }

        void full(boolean full) {
            if (full || into.told == 80) throw new Fault(6, at());
        }

        Text whole() {
            while (next < tokens.size()) {
                statement();
                want(";");
                into.told++;
            }
            if (!into.readers.isEmpty() && into.tables.isEmpty()) throw new Fault(1, text.length());
            return into;
        }

        void statement() {
            full(false);
            switch (see()) {
                case "book": full(into.books.size() == 5); next++; into.books.add(given()); break;
                case "page": full(into.pages.size() == 14); next++; page(); break;
                case "needs": full(into.needs == 20); next++; need(); break;
                case "reader":
                    full(into.readers.size() == 6);
                    next++;
                    into.readers.add(given());
                    want("pace");
                    into.pace.add(number(1, 9));
                    want("eyes");
                    into.eyes.add(number(0, 9));
                    break;
                case "table":
                    full(into.tables.size() == 5);
                    next++;
                    into.tables.add(given());
                    want("draft");
                    into.draft.add(number(0, 9));
                    break;
                case "inch": full(false); next++; into.inch = number(10, 120); break;
                case "burns": full(into.burns != null); next++; into.burns = sum(); break;
                case "takes": full(into.takes != null); next++; into.takes = sum(); break;
                case "tells": full(into.tells != null); next++; into.tells = test(); break;
                default: throw new Fault(1, at());
            }
        }

        void page() {
            Page p = new Page();
            p.name = given();
            want("of");
            if (!seesName()) throw new Fault(1, at());
            p.book = into.books.indexOf(see());
            if (p.book < 0) throw new Fault(3, at());
            next++;
            want("lines");
            p.lines = number(1, 99);
            if (is("big")) {
                p.big = true;
                next++;
            }
            into.pages.add(p);
        }

        void need() {
            int first = pageNamed();
            next++;
            int second = pageNamed();
            if (second >= first || !into.pages.get(first).needs.add(second)) throw new Fault(3, at());
            next++;
            into.needs++;
        }

        void opens() {
            if (open == 7) throw new Fault(5, at());
            open++;
            next++;
        }

        void closes(String word) {
            want(word);
            open--;
        }

        Test test() {
            Test all = both();
            while (is("or")) {
                next++;
                Test a = all, b = both();
                all = x -> a.of(x) || b.of(x);
            }
            return all;
        }

        Test both() {
            Test all = fact();
            while (is("and")) {
                next++;
                Test a = all, b = fact();
                all = x -> a.of(x) && b.of(x);
            }
            return all;
        }

        Test fact() {
            if (is("not")) {
                opens();
                Test a = fact();
                open--;
                return x -> !a.of(x);
            }
            if (is("[")) {
                opens();
                Test a = test();
                closes("]");
                return a;
            }
            if (is("all")) {
                next++;
                return x -> true;
            }
            Sum a = sum();
            String sign = see();
            if (!sign.equals("<") && !sign.equals(">") && !sign.equals("=")) throw new Fault(1, at());
            next++;
            Sum b = sum();
            switch (sign) {
                case "<": return x -> a.of(x) < b.of(x);
                case ">": return x -> a.of(x) > b.of(x);
                default: return x -> a.of(x) == b.of(x);
            }
        }

        static long bound(long n) {
            return Math.max(-1000000, Math.min(1000000, n));
        }

        static long floor(long a, long b) {
            if (b == 0) return 0;
            long q = a / b;
            return q * b != a && (a < 0) != (b < 0) ? q - 1 : q;
        }

        Sum sum() {
            Sum all = product();
            while (is("+") || is("-")) {
                String sign = see();
                next++;
                Sum a = all, b = product();
                all = sign.equals("+") ? x -> bound(a.of(x) + b.of(x)) : x -> bound(a.of(x) - b.of(x));
            }
            return all;
        }

        Sum product() {
            Sum all = part();
            while (is("*") || is("/") || is("%")) {
                String sign = see();
                next++;
                Sum a = all, b = part();
                switch (sign) {
                    case "*": all = x -> bound(a.of(x) * b.of(x)); break;
                    case "/": all = x -> bound(floor(a.of(x), b.of(x))); break;
                    default: all = x -> b.of(x) == 0 ? 0 : a.of(x) - b.of(x) * floor(a.of(x), b.of(x)); break;
                }
            }
            return all;
        }

        Sum part() {
            if (seesNumber()) {
                long n = Long.parseLong(see());
                next++;
                return x -> n;
            }
            String word = see();
            Sum value = value(word);
            if (value != null) {
                next++;
                return value;
            }
            if (word.equals("(")) {
                opens();
                Sum a = sum();
                closes(")");
                return a;
            }
            if (word.equals("min") || word.equals("max")) {
                next++;
                if (!is("(")) throw new Fault(1, at());
                opens();
                Sum a = sum();
                want(",");
                Sum b = sum();
                closes(")");
                return word.equals("min") ? x -> Math.min(a.of(x), b.of(x)) : x -> Math.max(a.of(x), b.of(x));
            }
            throw new Fault(1, at());
        }

        static Sum value(String word) {
            switch (word) {
                case "lines": return x -> x.lines;
                case "print": return x -> x.print;
                case "pace": return x -> x.pace;
                case "eyes": return x -> x.eyes;
                case "knows": return x -> x.knows;
                case "draft": return x -> x.draft;
                case "sitting": return x -> x.sitting;
                case "inch": return x -> x.inch;
                case "night": return x -> x.night;
                default: return null;
            }
        }
    }

    static final class Reader {
        int table = 0, read = 0, heard = 0, left = NONE, into = 0;
        List<Integer> list = new ArrayList<>();

        Reader copy() {
            Reader r = new Reader();
            r.table = table;
            r.read = read;
            r.heard = heard;
            r.left = left;
            r.into = into;
            r.list = new ArrayList<>(list);
            return r;
        }

        int known() {
            return read | heard;
        }
    }

    static final class State {
        int night = 0, wax = 0;
        List<Reader> readers = new ArrayList<>();
        List<int[]> kept = new ArrayList<>();

        State copy() {
            State s = new State();
            s.night = night;
            s.wax = wax;
            for (Reader r : readers) s.readers.add(r.copy());
            s.kept = new ArrayList<>(kept);
            return s;
        }
    }

    /** What a night brings. */
    static final class Night {
        int[] light, count, bits, stop;
        int read, wax, idle;
        State after;
    }

    private final List<Integer> tape = new ArrayList<>();
    private Text text = new Text();
    private State now = new State();
    private final List<State> past = new ArrayList<>();
    private int[] image = new int[0];
    private int faultKind = 0, faultPlace = NONE;
    private long seed = 1;
    private final int[] refused = new int[6];

    private int no(int which) {
        refused[which]++;
        return NONE;
    }

    private boolean never(int which) {
        refused[which]++;
        return false;
    }

    int feed(int a, int b, int c, int d, int e) {
        if (tape.size() + 20 > 1600) return no(0);
        for (int n : new int[] {a, b, c, d, e}) {
            for (int k = 3; k >= 0; k--) tape.add((n >> (8 * k)) & 255);
        }
        return tape.size();
    }

    boolean end(int n) {
        if (n < 0 || n > tape.size()) return never(0);
        while (tape.size() > n) tape.remove(tape.size() - 1);
        return true;
    }

    int library() {
        StringBuilder s = new StringBuilder();
        for (int b : tape) s.append((char) b);
        tape.clear();
        try {
            text = new Reading(s.toString()).whole();
        } catch (Fault f) {
            faultKind = f.kind;
            faultPlace = f.place;
            return no(1);
        }
        faultKind = 0;
        faultPlace = NONE;
        now = new State();
        for (int r = 0; r < text.readers.size(); r++) now.readers.add(new Reader());
        past.clear();
        return text.told;
    }

    int fault(int what) {
        return what == 0 ? faultKind : what == 1 ? faultPlace : NONE;
    }

    int has(int what) {
        switch (what) {
            case 0: return text.books.size();
            case 1: return text.pages.size();
            case 2: return text.needs;
            case 3: return text.readers.size();
            case 4: return text.tables.size();
            case 5: return text.inch;
            case 6: return now.night;
            case 7: return now.wax;
            case 8: return Math.min(60, now.kept.size());
            case 9: {
                int n = 0;
                for (Reader r : now.readers) n += Integer.bitCount(r.known());
                return n;
            }
            case 10: return past.size();
            case 11: return (int) seed;
            default: return NONE;
        }
    }

    int letter(int kind, int which, int k) {
        List<String> names = new ArrayList<>();
        if (kind == 0) names = text.books;
        if (kind == 1) for (Page p : text.pages) names.add(p.name);
        if (kind == 2) names = text.readers;
        if (kind == 3) names = text.tables;
        if (which < 0 || which >= names.size() || k < 0 || k > 5) return NONE;
        return k < names.get(which).length() ? names.get(which).charAt(k) - 'a' + 1 : 0;
    }

    private int needBits(int page) {
        int bits = 0;
        for (int q : text.pages.get(page).needs) bits |= 1 << q;
        return bits;
    }

    private boolean isPage(int page) {
        return page >= 0 && page < text.pages.size();
    }

    private boolean isReader(int reader) {
        return reader >= 0 && reader < text.readers.size();
    }

    private boolean isTable(int table) {
        return table >= 0 && table < text.tables.size();
    }

    private boolean isQuestion(int q) {
        return q >= 0 && q < (1 << text.pages.size());
    }

    int page(int page, int what) {
        if (!isPage(page)) return NONE;
        Page p = text.pages.get(page);
        switch (what) {
            case 0: return p.book;
            case 1: return p.lines;
            case 2: return p.big ? 1 : 0;
            case 3: return needBits(page);
            case 4: {
                int all = needBits(page);
                for (int again = 0; again < 20; again++) {
                    for (int q = 0; q < text.pages.size(); q++) if ((all >> q & 1) != 0) all |= needBits(q);
                }
                return all;
            }
            case 5: {
                int n = 0;
                for (Reader r : now.readers) n += r.known() >> page & 1;
                return n;
            }
            default: return NONE;
        }
    }

    int reader(int reader, int what) {
        if (!isReader(reader)) return NONE;
        Reader r = now.readers.get(reader);
        switch (what) {
            case 0: return r.table;
            case 1: return text.pace.get(reader);
            case 2: return text.eyes.get(reader);
            case 3: return r.read;
            case 4: return r.heard;
            case 5: return r.left;
            case 6: return r.into;
            case 7: return r.list.size();
            default: return what >= 10 && what - 10 < r.list.size() ? r.list.get(what - 10) : NONE;
        }
    }

    private Asked asked(State s, int reader, int cold) {
        Asked a = new Asked();
        Reader r = s.readers.get(reader);
        a.pace = text.pace.get(reader);
        a.eyes = text.eyes.get(reader);
        a.knows = Integer.bitCount(r.known());
        a.draft = text.draft.get(r.table) + (r.table == cold ? 3 : 0);
        for (Reader o : s.readers) if (o.table == r.table) a.sitting++;
        a.inch = text.inch;
        a.night = s.night;
        return a;
    }

    private int takesOf(Asked a, int page) {
        a.lines = text.pages.get(page).lines;
        a.print = text.pages.get(page).big ? 1 : 0;
        return text.takes == null ? a.lines : (int) Math.max(1, Math.min(500, text.takes.of(a)));
    }

    private int burnsOf(Asked a) {
        a.lines = 0;
        a.print = 0;
        return text.burns == null ? text.inch : (int) Math.max(0, Math.min(500, text.burns.of(a)));
    }

    private int lightOf(State s, int table, int cold) {
        int light = 0;
        for (int r = 0; r < s.readers.size(); r++) {
            if (s.readers.get(r).table == table) light += burnsOf(asked(s, r, cold));
        }
        return light;
    }

    int table(int table, int what) {
        if (!isTable(table)) return NONE;
        if (what == 0) return text.draft.get(table);
        if (what == 1) {
            int n = 0;
            for (Reader r : now.readers) if (r.table == table) n++;
            return n;
        }
        return what == 2 ? lightOf(now, table, NONE) : NONE;
    }

    int takes(int reader, int page) {
        return isReader(reader) && isPage(page) ? takesOf(asked(now, reader, NONE), page) : NONE;
    }

    int burns(int reader) {
        return isReader(reader) ? burnsOf(asked(now, reader, NONE)) : NONE;
    }

    private boolean may(int known, int page) {
        return (needBits(page) & ~known) == 0;
    }

    private int choose(Reader r) {
        if (r.left != NONE && may(r.known(), r.left)) return r.left;
        for (int p : r.list) if (may(r.known(), p)) return p;
        return NONE;
    }

    private Night nightOf(State before, int cold) {
        Night n = new Night();
        int tables = text.tables.size();
        int readers = before.readers.size();
        n.light = new int[tables];
        n.count = new int[readers];
        n.bits = new int[readers];
        n.stop = new int[readers];
        n.after = before.copy();
        for (int t = 0; t < tables; t++) n.light[t] = lightOf(before, t, cold);
        int[] last = new int[tables];
        for (int r = 0; r < readers; r++) {
            Reader who = n.after.readers.get(r);
            int light = n.light[who.table];
            int minute = 0;
            int page = NONE;
            int takes = 0;
            // each turn is one minute of light, within which pages that are done already go at once
            while (minute < light) {
                if (page == NONE) {
                    page = choose(who);
                    if (page == NONE) break;
                    if (who.left != page) {
                        who.left = page;
                        who.into = 0;
                    }
                    takes = takesOf(asked(n.after, r, cold), page);
                }
                if (who.into < takes) {
                    who.into++;
                    minute++;
                }
                if (who.into >= takes) {
                    who.read |= 1 << page;
                    who.list.remove((Integer) page);
                    who.left = NONE;
                    who.into = 0;
                    n.count[r]++;
                    n.bits[r] |= 1 << page;
                    n.after.kept.add(new int[] {before.night + 1, r, page});
                    page = NONE;
                }
            }
            n.stop[r] = minute;
            last[who.table] = Math.max(last[who.table], minute);
            n.read += n.count[r];
            if (n.count[r] == 0) n.idle++;
        }
        for (int t = 0; t < tables; t++) n.wax += n.light[t] - last[t];
        n.after.night++;
        n.after.wax = Math.min(9999, n.after.wax + n.wax);
        return n;
    }

    int tonight(int reader, int what) {
        if (!isReader(reader)) return NONE;
        Night n = nightOf(now, NONE);
        switch (what) {
            case 0: return n.count[reader];
            case 1: return n.bits[reader];
            case 2: return n.stop[reader];
            case 3: return n.after.readers.get(reader).left;
            case 4: return n.after.readers.get(reader).into;
            default: return NONE;
        }
    }

    int whole(int what) {
        Night n = nightOf(now, NONE);
        switch (what) {
            case 0: return n.read;
            case 1: return Arrays.stream(n.light).sum();
            case 2: return n.wax;
            case 3: return n.idle;
            default: return NONE;
        }
    }

    private void act() {
        past.add(now.copy());
        if (past.size() > 20) past.remove(0);
    }

    boolean seat(int reader, int table) {
        if (!isReader(reader) || !isTable(table) || now.readers.get(reader).table == table) return never(2);
        act();
        now.readers.get(reader).table = table;
        return true;
    }

    boolean list(int reader, int page) {
        if (!isReader(reader) || !isPage(page)) return never(2);
        Reader r = now.readers.get(reader);
        if ((r.known() >> page & 1) != 0 || r.list.contains(page) || r.list.size() == 8) return never(2);
        act();
        r.list.add(page);
        return true;
    }

    int drop(int reader) {
        if (!isReader(reader)) return no(2);
        act();
        Reader r = now.readers.get(reader);
        int n = r.list.size();
        r.list.clear();
        r.left = NONE;
        r.into = 0;
        return n;
    }

    boolean tell(int from, int to, int page) {
        if (!isReader(from) || !isReader(to) || !isPage(page)) return never(2);
        Reader a = now.readers.get(from), b = now.readers.get(to);
        if (a.table != b.table || (a.read >> page & 1) == 0 || (b.known() >> page & 1) != 0) return never(2);
        Asked who = asked(now, to, NONE);
        takesOf(who, page);
        if (!may(b.known(), page) || (text.tells != null && !text.tells.of(who))) return never(2);
        act();
        b.heard |= 1 << page;
        b.list.remove((Integer) page);
        if (b.left == page) {
            b.left = NONE;
            b.into = 0;
        }
        return true;
    }

    int night() {
        if (now.night == 999) return no(3);
        act();
        Night n = nightOf(now, NONE);
        now = n.after;
        return n.read;
    }

    int winter(int n) {
        if (n < 1 || n > 30 || now.night + n > 999 || text.tables.isEmpty()) return no(3);
        act();
        int read = 0;
        for (int k = 0; k < n; k++) {
            seed = (1103515245L * seed + 12345) % (1L << 31);
            Night one = nightOf(now, (int) (seed / 64 % text.tables.size()));
            now = one.after;
            read += one.read;
        }
        return read;
    }

    boolean undo() {
        if (past.isEmpty()) return never(4);
        now = past.remove(past.size() - 1);
        return true;
    }

    boolean seed(int s) {
        if (s < 0) return never(5);
        seed = s;
        return true;
    }

    int kept(int k, int what) {
        int told = Math.min(60, now.kept.size());
        if (k < 0 || k >= told || what < 0 || what > 2) return NONE;
        return now.kept.get(now.kept.size() - told + k)[what];
    }

    private int workBits(int reader, int question, int indexed) {
        int known = now.readers.get(reader).known();
        int set = question & ~known;
        for (int again = 0; again < 20; again++) {
            for (int p = 0; p < text.pages.size(); p++) {
                if ((set >> p & 1) == 0) continue;
                for (int q : text.pages.get(p).needs) if (q != indexed && (known >> q & 1) == 0) set |= 1 << q;
            }
        }
        return set;
    }

    private int minutes(int reader, int set, boolean knewNone) {
        int n = 0;
        for (int p = 0; p < text.pages.size(); p++) {
            if ((set >> p & 1) == 0) continue;
            Asked a = asked(now, reader, NONE);
            if (knewNone) a.knows = 0;
            n += takesOf(a, p);
        }
        return n;
    }

    private int nights(int reader, int question) {
        int work = minutes(reader, workBits(reader, question, NONE), false);
        int light = lightOf(now, now.readers.get(reader).table, NONE);
        if (work == 0) return 0;
        if (light == 0) return NONE;
        int n = 0;
        while (n * light < work) n++;
        return n;
    }

    int work(int reader, int question, int what) {
        if (!isReader(reader) || !isQuestion(question)) return NONE;
        switch (what) {
            case 0: return minutes(reader, workBits(reader, question, NONE), false);
            case 1: return nights(reader, question);
            case 2: return workBits(reader, question, NONE);
            default: return NONE;
        }
    }

    int scholar(int question) {
        if (!isQuestion(question)) return NONE;
        int best = NONE;
        for (int r = 0; r < now.readers.size(); r++) {
            int n = nights(r, question);
            if (n != NONE && (best == NONE || n < nights(best, question))) best = r;
        }
        return best;
    }

    int shared(int question, int k) {
        if (!isQuestion(question) || question == 0 || Integer.bitCount(question) > 8) return NONE;
        List<Integer> pages = new ArrayList<>();
        for (int p = 0; p < text.pages.size(); p++) if ((question >> p & 1) != 0) pages.add(p);
        int sharers = Math.min(3, now.readers.size());
        int ways = (int) Math.pow(sharers, pages.size());
        int bestNights = NONE, bestMinutes = 0;
        int[] bestGiven = null;
        int[][] knownNights = new int[3][1 << text.pages.size()];
        int[][] knownMinutes = new int[3][1 << text.pages.size()];
        for (int way = 0; way < ways; way++) {
            int[] given = new int[pages.size()];
            int[] part = new int[3];
            int rest = way;
            // the first page changes last
            for (int i = pages.size() - 1; i >= 0; i--) {
                given[i] = rest % sharers;
                rest /= sharers;
                part[given[i]] |= 1 << pages.get(i);
            }
            int most = 0, all = 0;
            boolean can = true;
            for (int s = 0; s < sharers; s++) {
                if (knownMinutes[s][part[s]] == 0) {
                    knownMinutes[s][part[s]] = 1 + minutes(s, workBits(s, part[s], NONE), false);
                    knownNights[s][part[s]] = nights(s, part[s]);
                }
                int n = knownNights[s][part[s]];
                can &= n != NONE;
                most = Math.max(most, n);
                all += knownMinutes[s][part[s]] - 1;
            }
            if (can && (bestGiven == null || most < bestNights || (most == bestNights && all < bestMinutes))) {
                bestNights = most;
                bestMinutes = all;
                bestGiven = given;
            }
        }
        if (bestGiven == null) return NONE;
        if (k == NONE) return bestNights;
        if (k == 20) return bestMinutes;
        return pages.contains(k) ? bestGiven[pages.indexOf(k)] : NONE;
    }

    int seated(int k) {
        int readers = now.readers.size();
        if (readers == 0) return NONE;
        int tables = text.tables.size();
        Night best = null;
        int ways = (int) Math.pow(tables, readers);
        for (int way = 0; way < ways; way++) {
            State s = now.copy();
            int rest = way;
            for (int r = readers - 1; r >= 0; r--) {
                Reader who = s.readers.get(r);
                who.table = rest % tables;
                who.left = NONE;
                who.into = 0;
                rest /= tables;
            }
            Night n = nightOf(s, NONE);
            if (best == null || n.read > best.read || (n.read == best.read && n.wax > best.wax)) best = n;
        }
        if (k == NONE) return best.read;
        if (k == 20) return best.wax;
        return isReader(k) ? best.after.readers.get(k).table : NONE;
    }

    int most(int reader, int n, int what) {
        if (!isReader(reader) || n < 0 || n > 99) return NONE;
        int known = now.readers.get(reader).known();
        int limit = n * lightOf(now, now.readers.get(reader).table, NONE);
        int[] takes = new int[text.pages.size()];
        for (int p = 0; p < takes.length; p++) takes[p] = takes(reader, p);
        int bestCount = NONE, bestSet = 0, bestMinutes = 0;
        for (int set = 0; set < (1 << takes.length); set++) {
            if ((set & known) != 0) continue;
            int minutes = 0;
            boolean closed = true;
            for (int p = 0; p < takes.length; p++) {
                if ((set >> p & 1) == 0) continue;
                minutes += takes[p];
                closed &= (needBits(p) & ~known & ~set) == 0;
            }
            int count = Integer.bitCount(set);
            if (closed && minutes <= limit && (count > bestCount || (count == bestCount && minutes < bestMinutes))) {
                bestCount = count;
                bestSet = set;
                bestMinutes = minutes;
            }
        }
        return what == 0 ? bestCount : what == 1 ? bestSet : what == 2 ? bestMinutes : NONE;
    }

    int wax(int reader, int minutes, int what) {
        if (!isReader(reader) || minutes < 0) return NONE;
        int[] takes = new int[text.pages.size()];
        for (int p = 0; p < takes.length; p++) takes[p] = minutes(reader, 1 << p, true);
        int count = 0, all = -1, some = 0;
        for (int set = 0; set < (1 << takes.length); set++) {
            int sum = 0;
            boolean closed = true;
            for (int p = 0; p < takes.length; p++) {
                if ((set >> p & 1) == 0) continue;
                sum += takes[p];
                closed &= (needBits(p) & ~set) == 0;
            }
            if (closed && sum == minutes) {
                count++;
                all &= set;
                some |= set;
            }
        }
        return what == 0 ? count : what == 1 ? (count == 0 ? 0 : all) : what == 2 ? some : NONE;
    }

    int index(int question, int what) {
        if (!isQuestion(question)) return NONE;
        int[] left = new int[text.pages.size()];
        int whole = 0;
        for (int r = 0; r < now.readers.size(); r++) {
            whole += minutes(r, workBits(r, question, NONE), false);
            for (int p = 0; p < left.length; p++) left[p] += minutes(r, workBits(r, question, p), false);
        }
        int best = NONE;
        for (int p = 0; p < left.length; p++) {
            if ((question >> p & 1) != 0 || left[p] >= whole) continue;
            if (best == NONE || left[p] < left[best]) best = p;
        }
        if (best == NONE) return NONE;
        return what == 0 ? best : what == 1 ? whole - left[best] : NONE;
    }

    int image() {
        List<Integer> b = new ArrayList<>(Arrays.asList(now.night / 256, now.night % 256, now.wax / 256, now.wax % 256));
        for (Reader r : now.readers) {
            b.addAll(Arrays.asList(r.table, r.read / 256, r.read % 256, r.heard / 256, r.heard % 256, r.left + 1,
                    r.into / 256, r.into % 256, r.list.size()));
            b.addAll(r.list);
        }
        int c = 83;
        for (int x : b) c = (5 * c + x) % 251;
        b.add(c);
        image = b.stream().mapToInt(x -> x).toArray();
        return image.length;
    }

    int octet(int k) {
        return k >= 0 && k < image.length ? image[k] : NONE;
    }

    boolean on() {
        List<Integer> b = new ArrayList<>(tape);
        tape.clear();
        State s = new State();
        boolean good;
        try {
            good = told(b, s);
        } catch (IndexOutOfBoundsException tooShort) {
            good = false;
        }
        if (!good) return never(5);
        now = s;
        past.clear();
        return true;
    }

    private boolean told(List<Integer> b, State s) {
        int at = 4;
        s.night = b.get(0) * 256 + b.get(1);
        s.wax = b.get(2) * 256 + b.get(3);
        if (s.night > 999 || s.wax > 9999) return false;
        for (int i = 0; i < text.readers.size(); i++) {
            Reader r = new Reader();
            r.table = b.get(at);
            r.read = b.get(at + 1) * 256 + b.get(at + 2);
            r.heard = b.get(at + 3) * 256 + b.get(at + 4);
            r.left = b.get(at + 5) - 1;
            r.into = b.get(at + 6) * 256 + b.get(at + 7);
            int listed = b.get(at + 8);
            r.list = new ArrayList<>(b.subList(at + 9, at + 9 + listed));
            at += 9 + listed;
            if (!isTable(r.table) || !isQuestion(r.read) || !isQuestion(r.heard) || (r.read & r.heard) != 0) return false;
            if (listed > 8 || new HashSet<>(r.list).size() != listed) return false;
            for (int p : r.list) if (!isPage(p) || (r.known() >> p & 1) != 0) return false;
            if (r.left == NONE ? r.into != 0 : !r.list.contains(r.left) || r.into < 1 || r.into > 499) return false;
            s.readers.add(r);
        }
        int c = 83;
        for (int k = 0; k < at; k++) c = (5 * c + b.get(k)) % 251;
        return at == b.size() - 1 && b.get(at) == c;
    }

    int status(int what) {
        return what >= 0 && what < 6 ? refused[what] : NONE;
    }
}
