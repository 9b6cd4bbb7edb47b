import java.lang.reflect.Method;
import java.nio.file.Files;
import java.nio.file.Path;
import java.util.List;
import java.util.regex.Matcher;
import java.util.regex.Pattern;

/** What README.md shows: its two helpers stand here word by word, its calls are made in their order. */
public final class ReadmeTest {
    private static final Pattern CALL = Pattern.compile("([xy])\\.(\\w+)\\(([^)]*)\\);\\s+// (\\S+)");
    private static final Pattern PUT = Pattern.compile("put\\(([xy]), (.*)\\);");

    private static final CandleInch x = new CandleInch();
    private static final CandleInch y = new CandleInch();
    private static int calls = 0;
    private static int helperLines = 0;

    public static void main(String[] args) throws Exception {
        List<String> page = Files.readAllLines(Path.of("README.md"));
        String own = Files.readString(Path.of("src/test/java/ReadmeTest.java"));
        String text = block(page, "```text");
        String kind = "";
        for (String line : page) {
            if (line.startsWith("```")) {
                kind = line.substring(3);
            } else if (kind.equals("java") && !line.isEmpty()) {
                show(line, text, own);
            }
        }
        Check.due("README.md shows calls", calls > 60, true);
        Check.due("README.md shows its two helpers", helperLines, 17);
        Check.close("ReadmeTest");
    }

    private static String block(List<String> page, String opened) {
        int from = page.indexOf(opened) + 1;
        int to = from;
        while (to < page.size() && !page.get(to).equals("```")) {
            to++;
        }
        return String.join("\n", page.subList(from, to));
    }

    private static void show(String line, String text, String own) throws Exception {
        Matcher call = CALL.matcher(line);
        Matcher put = PUT.matcher(line);
        if (call.matches()) {
            calls++;
            Check.due("README.md: " + line, answer(object(call.group(1)), call.group(2), call.group(3)), due(call.group(4)));
        } else if (put.matches()) {
            put(object(put.group(1)), bytes(put.group(2), text));
        } else if (!line.matches("CandleInch [xy] = new CandleInch\\(\\);")) {
            helperLines++;
            Check.due("README.md: " + line + " stands in the test", own.contains("\n    " + line + "\n"), true);
        }
    }

    private static CandleInch object(String name) {
        return name.equals("x") ? x : y;
    }

    private static int[] bytes(String what, String text) {
        if (what.equals("octets(x)")) {
            return octets(x);
        }
        return (what.equals("text") ? text : what.replace("\"", "")).chars().toArray();
    }

    private static int due(String word) {
        switch (word) {
            case "true": return 1;
            case "false": return 0;
            case "NONE": return CandleInch.NONE;
            default: return Integer.parseInt(word);
        }
    }

    private static int answer(CandleInch object, String name, String arguments) throws Exception {
        String[] words = arguments.isEmpty() ? new String[0] : arguments.split(", ");
        Class<?>[] types = new Class<?>[words.length];
        Object[] values = new Object[words.length];
        for (int k = 0; k < words.length; k++) {
            types[k] = int.class;
            values[k] = due(words[k]);
        }
        Method method = CandleInch.class.getMethod(name, types);
        Object answer = method.invoke(object, values);
        return answer instanceof Boolean b ? Check.bit(b) : (Integer) answer;
    }

    static void put(CandleInch x, int[] bytes) {
        for (int from = 0; from < bytes.length; from += 20) {
            int[] five = new int[5];
            for (int k = 0; k < 20; k++) {
                five[k / 4] = (five[k / 4] << 8) | (from + k < bytes.length ? bytes[from + k] : 0);
            }
            x.feed(five[0], five[1], five[2], five[3], five[4]);
        }
        x.end(bytes.length);
    }

    static int[] octets(CandleInch x) {
        int[] bytes = new int[x.image()];
        for (int k = 0; k < bytes.length; k++) {
            bytes[k] = x.octet(k);
        }
        return bytes;
    }
}
