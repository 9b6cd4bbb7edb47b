import java.lang.reflect.Constructor;
import java.lang.reflect.Field;
import java.lang.reflect.Method;
import java.lang.reflect.Modifier;
import java.nio.file.Files;
import java.nio.file.Path;
import java.util.Set;
import java.util.TreeSet;
import java.util.regex.Matcher;
import java.util.regex.Pattern;

/** Those rules of LANGUAGE.md that can be read off the class or its text. */
public final class LanguageTest {
    private static final String[] FACE = {"feed", "end", "library", "fault", "has", "letter", "page", "reader", "table",
        "takes", "burns", "tonight", "whole", "seat", "list", "drop", "tell", "night", "winter", "undo", "seed", "kept",
        "work", "scholar", "shared", "seated", "most", "wax", "index", "image", "octet", "on", "status"};

    /** What the class uses of the library, and what of it LANGUAGE.md lists; constants of Integer are not there. */
    private static final Set<String> LISTED = Set.of("Arrays.fill", "Integer.bitCount", "Math.floorDiv", "Math.floorMod",
        "Math.max", "Math.min", "System.arraycopy");

    public static void main(String[] args) throws Exception {
        face();
        nested();
        words();
        library();
        recursion();
        Check.close("LanguageTest");
    }

    private static String code() throws Exception {
        String text = Files.readString(Path.of("src/main/java/CandleInch.java"));
        return text.replaceAll("(?s)/\\*.*?\\*/", "").replaceAll("//[^\n]*", "").replaceAll("\"[^\"\n]*\"", "\"\"");
    }

    private static void face() {
        Check.due("the class is public and final", CandleInch.class.getModifiers(), Modifier.PUBLIC | Modifier.FINAL);
        Set<String> names = new TreeSet<>();
        for (Method m : CandleInch.class.getDeclaredMethods()) {
            if (Modifier.isPublic(m.getModifiers())) {
                names.add(m.getName());
            } else {
                Check.due(m.getName() + " is private", Modifier.isPrivate(m.getModifiers()), true);
            }
        }
        Check.due("the face " + names, names.equals(new TreeSet<>(Set.of(FACE))), true);
        for (Field f : CandleInch.class.getDeclaredFields()) {
            Check.due(f.getName() + " is private", Modifier.isPrivate(f.getModifiers()), !f.getName().equals("NONE"));
        }
        for (Constructor<?> c : CandleInch.class.getDeclaredConstructors()) {
            Check.due("the constructor", c.getParameterCount(), 0);
        }
    }

    private static void nested() {
        Set<String> face = Set.of(FACE);
        Class<?>[] classes = CandleInch.class.getDeclaredClasses();
        Check.due("twelve classes at most", classes.length + 1 <= 12, true);
        for (Class<?> c : classes) {
            Check.due(c.getName() + " is static", Modifier.isStatic(c.getModifiers()), true);
            int fields = 0;
            for (Field f : c.getDeclaredFields()) {
                fields += Modifier.isStatic(f.getModifiers()) ? 0 : 1;
                Check.due(f + ": static is final", Modifier.isStatic(f.getModifiers()) && !Modifier.isFinal(f.getModifiers()), false);
            }
            Check.due(c.getName() + " has twenty fields at most", fields <= 20, true);
            for (Method m : c.getDeclaredMethods()) {
                Check.due(m + " has a name of its own", face.contains(m.getName()), false);
                Check.due(m + " has seven parameters at most", m.getParameterCount() <= 7, true);
            }
        }
    }

    private static void words() throws Exception {
        String text = Files.readString(Path.of("src/main/java/CandleInch.java"));
        Matcher bad = Pattern.compile("\\b(throw|throws|try|catch|finally|synchronized|assert|package|var|record)\\b"
                + "|->|::|Exact\\b|\\bjava\\.(?!util\\.Arrays;)").matcher(code());
        while (bad.find()) {
            Check.due("'" + bad.group() + "' in the code", 1, 0);
        }
        for (char c : text.toCharArray()) {
            Check.due("a sign of 1 to 127", c >= 1 && c <= 127, true);
        }
    }

    /** Rule 4: only what is listed. Rule 10: && and || alone are listed for what is true or false, not &=, |= or ^=. */
    private static void library() throws Exception {
        Matcher used = Pattern.compile("\\b(Arrays|Boolean|Character|Double|Float|Integer|List|Long|Math|Short|String|System)\\.\\w+")
                .matcher(code());
        while (used.find()) {
            Check.due(used.group() + " is listed", LISTED.contains(used.group()), true);
        }
        Matcher joined = Pattern.compile("[&|^]=[^;]*(==|!=|<=|>=|&&|\\|\\|)[^;]*;").matcher(code());
        while (joined.find()) {
            Check.due("'" + joined.group() + "' joins by && or ||", 1, 0);
        }
    }

    /** Rule 8: a method that calls itself is private and static. Rule 11: a method has some sixty lines. */
    private static void recursion() throws Exception {
        Pattern header = Pattern.compile(" {4}( {4})?[A-Za-z][^=;]*?(\\w+)\\([^=;]*\\) \\{");
        String opened = "";
        String name = "";
        String indent = "";
        int methods = 0;
        int lines = 0;
        for (String line : code().split("\n")) {
            Matcher m = header.matcher(line);
            if (m.matches()) {
                opened = line.strip();
                name = m.group(2);
                indent = line.substring(0, line.length() - line.stripLeading().length());
                methods++;
                lines = 0;
            } else if (!name.isEmpty() && Pattern.compile("(?<![\\w.])" + name + "\\(").matcher(line).find()) {
                Check.due(opened + " calls itself, private and static", opened.startsWith("private static "), true);
            }
            lines++;
            if (line.equals(indent + "}")) {
                Check.due(opened + " has " + lines + " lines", lines <= 60, true);
                name = "";
            }
        }
        Check.due("methods were looked at", methods > 150, true);
    }
}
