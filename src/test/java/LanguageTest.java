import java.lang.reflect.Constructor;
import java.lang.reflect.Field;
import java.lang.reflect.Method;
import java.lang.reflect.Modifier;
import java.nio.file.Files;
import java.nio.file.Path;
import java.util.Set;
import java.util.TreeSet;
import java.util.regex.Matcher;
import java.util.regex.Pattern;

/** Those rules of LANGUAGE.md that can be read off the class or its text. */
public final class LanguageTest {
    private static final String[] FACE = {"feed", "end", "library", "fault", "has", "letter", "page", "reader", "table",
        "takes", "burns", "tonight", "whole", "seat", "list", "drop", "tell", "night", "winter", "undo", "seed", "kept",
        "work", "scholar", "shared", "seated", "most", "wax", "index", "image", "octet", "on", "status"};

    public static void main(String[] args) throws Exception {
        face();
        nested();
        words();
        lengths();
        Check.close("LanguageTest");
    }

    private static void face() {
        Check.due("the class is public and final", CandleInch.class.getModifiers(), Modifier.PUBLIC | Modifier.FINAL);
        Set<String> names = new TreeSet<>();
        for (Method m : CandleInch.class.getDeclaredMethods()) {
            if (Modifier.isPublic(m.getModifiers())) {
                names.add(m.getName());
            } else {
                Check.due(m.getName() + " is private", Modifier.isPrivate(m.getModifiers()), true);
            }
        }
        Check.due("the face " + names, names.equals(new TreeSet<>(Set.of(FACE))), true);
        for (Field f : CandleInch.class.getDeclaredFields()) {
            Check.due(f.getName() + " is private", Modifier.isPrivate(f.getModifiers()), !f.getName().equals("NONE"));
        }
        for (Constructor<?> c : CandleInch.class.getDeclaredConstructors()) {
            Check.due("the constructor", c.getParameterCount(), 0);
        }
    }

    private static void nested() {
        Set<String> face = Set.of(FACE);
        Class<?>[] classes = CandleInch.class.getDeclaredClasses();
        Check.due("twelve classes at most", classes.length + 1 <= 12, true);
        for (Class<?> c : classes) {
            Check.due(c.getName() + " is static", Modifier.isStatic(c.getModifiers()), true);
            int fields = 0;
            for (Field f : c.getDeclaredFields()) {
                fields += Modifier.isStatic(f.getModifiers()) ? 0 : 1;
                Check.due(f + ": static is final", Modifier.isStatic(f.getModifiers()) && !Modifier.isFinal(f.getModifiers()), false);
            }
            Check.due(c.getName() + " has twenty fields at most", fields <= 20, true);
            for (Method m : c.getDeclaredMethods()) {
                Check.due(m + " has a name of its own", face.contains(m.getName()), false);
                Check.due(m + " has seven parameters at most", m.getParameterCount() <= 7, true);
            }
        }
    }

    private static void words() throws Exception {
        String text = Files.readString(Path.of("src/main/java/CandleInch.java"));
        String code = text.replaceAll("(?s)/\\*.*?\\*/", "").replaceAll("//[^\n]*", "").replaceAll("\"[^\"\n]*\"", "\"\"");
        Matcher bad = Pattern.compile("\\b(throw|throws|try|catch|finally|synchronized|assert|package|var|record)\\b"
                + "|->|::|Exact\\b|\\bjava\\.(?!util\\.Arrays;)").matcher(code);
        while (bad.find()) {
            Check.due("'" + bad.group() + "' in the code", 1, 0);
        }
        for (char c : text.toCharArray()) {
            Check.due("a sign of 1 to 127", c >= 1 && c <= 127, true);
        }
    }

    /** Methods have some sixty lines; one begins four or eight blanks in, and ends with the brace below its first letter. */
    private static void lengths() throws Exception {
        String indent = "";
        int lines = 0;
        for (String line : Files.readAllLines(Path.of("src/main/java/CandleInch.java"))) {
            if (line.matches(" {4}( {4})?[A-Za-z][^=;]*\\) \\{")) {
                indent = line.substring(0, line.length() - line.stripLeading().length());
                lines = 0;
            }
            lines++;
            if (line.equals(indent + "}")) {
                Check.due("a method of " + lines + " lines", lines <= 60, true);
                lines = 0;
            }
        }
    }
}
