import java.io.IOException;
import java.lang.reflect.Constructor;
import java.lang.reflect.Field;
import java.lang.reflect.Method;
import java.lang.reflect.Modifier;
import java.nio.file.Files;
import java.nio.file.Path;
import java.util.ArrayList;
import java.util.HashSet;
import java.util.List;
import java.util.Set;
import java.util.TreeSet;
import java.util.regex.Matcher;
import java.util.regex.Pattern;

/** Rules of LANGUAGE.md that can be seen in the text and the members of the class; the face of DOC.md. */
public final class LanguageTest {
    private static final Check CHECK = new Check("LanguageTest");
    private static final Path SOURCE = Path.of("src/main/java/RibbonRoads.java");
    private static final Path DOCUMENT = Path.of("../shared/DOC.md");

    private static void none(String what, Iterable<String> found) {
        for (String one : found) {
            CHECK.due(what + ": " + one, 1, 0);
        }
        CHECK.due(what, 0, 0);
    }

    private static List<String> matches(String text, String pattern) {
        List<String> all = new ArrayList<>();
        Matcher m = Pattern.compile(pattern).matcher(text);
        while (m.find()) {
            all.add(m.group());
        }
        return all;
    }

    private static void words(String source) {
        String code = source.replaceAll("(?s)/\\*.*?\\*/", "").replaceAll("//[^\n]*", "").replaceAll("\"[^\"\n]*\"", "\"\"");
        none("forbidden word", matches(code, "\\b(throw|throws|try|catch|finally|synchronized|assert|package|volatile|native)\\b"));
        none("lambda or method reference", matches(code, "->|::"));
        none("static block", matches(code, "static\\s*\\{"));
        none("outside the library", matches(code, "\\b(System\\.(?!arraycopy)\\w+|Thread|Random|Object|Collections|HashMap|Exception)\\b"));
        none("an Exact function", matches(code, "\\w+Exact\\b"));
        none("import", matches(code, "import (?!java\\.util\\.(Arrays|ArrayList|List);)[^;]*;"));
        none("texts joined by +", matches(code, "\"\"\\s*\\+|\\+\\s*\"\""));
        for (char c : source.toCharArray()) {
            if (c > 126 || c < 32 && c != '\n') {
                CHECK.due("sign in the source", c, 32);
            }
        }
    }

    private static void lengths(String source) {
        String[] lines = source.split("\n");
        int from = -1;
        for (int i = 0; i < lines.length; i++) {
            if (lines[i].matches(" {4,8}[\\w\\[\\] ]+\\(.*\\) \\{")) {
                from = i;
            }
            if (from >= 0 && lines[i].matches(" {4,8}\\}") && lines[i].indexOf('}') == lines[from].length() - lines[from].stripLeading().length()) {
                CHECK.due("short: " + lines[from].strip() + " " + (i - from), i - from <= 60 ? 0 : 1, 0);
                from = -1;
            }
        }
    }

    private static void face(String document) {
        Set<String> due = new TreeSet<>();
        String block = document.substring(document.indexOf("public final class RibbonRoads {"));
        block = block.substring(0, block.indexOf("```"));
        for (String row : matches(block, "public (int|long) \\w+\\([^)]*\\)")) {
            due.add(row.replaceAll("(int|long|boolean) (\\w+)(?=[,)])", "$1"));
        }
        Set<String> found = new TreeSet<>();
        Set<String> names = new HashSet<>();
        for (Method m : RibbonRoads.class.getDeclaredMethods()) {
            if (!Modifier.isPrivate(m.getModifiers())) {
                StringBuilder row = new StringBuilder("public " + m.getReturnType() + " " + m.getName() + "(");
                for (Class<?> type : m.getParameterTypes()) {
                    row.append(row.charAt(row.length() - 1) == '(' ? "" : ", ").append(type);
                }
                found.add(row.append(")").toString());
                names.add(m.getName());
            }
        }
        CHECK.due("49 promises: 48 methods", due.size(), 48);
        CHECK.due("the face: " + found + " due " + due, found.equals(due) ? 1 : 0, 1);
        privates(names);
    }

    private static void privates(Set<String> publicNames) {
        List<Class<?>> all = new ArrayList<>(List.of(RibbonRoads.class.getDeclaredClasses()));
        CHECK.due("some twelve classes", all.size() < 12 ? 1 : 0, 1);
        for (Class<?> c : all) {
            CHECK.due(c + " is static", Modifier.isStatic(c.getModifiers()) ? 1 : 0, 1);
            CHECK.due(c + " is not public", Modifier.isPublic(c.getModifiers()) || Modifier.isProtected(c.getModifiers()) ? 1 : 0, 0);
        }
        all.add(RibbonRoads.class);
        for (Class<?> c : all) {
            int fields = 0;
            for (Field f : c.getDeclaredFields()) {
                boolean fixed = Modifier.isStatic(f.getModifiers());
                CHECK.due(f + " is final", fixed && !Modifier.isFinal(f.getModifiers()) ? 1 : 0, 0);
                fields += fixed ? 0 : 1;
                boolean seen = c == RibbonRoads.class && !Modifier.isPrivate(f.getModifiers());
                CHECK.due(f + " is private", seen && !f.getName().equals("NONE") ? 1 : 0, 0);
            }
            CHECK.due(c + " has some twenty fields", fields <= 20 ? 1 : 0, 1);
            for (Method m : c.getDeclaredMethods()) {
                CHECK.due(m + " takes seven at most", m.getParameterCount() <= 7 ? 1 : 0, 1);
                boolean own = c != RibbonRoads.class || Modifier.isPrivate(m.getModifiers());
                CHECK.due(m + " has a name of its own", own && publicNames.contains(m.getName()) ? 1 : 0, 0);
            }
        }
        Constructor<?>[] makers = RibbonRoads.class.getDeclaredConstructors();
        CHECK.due("one constructor", makers.length, 1);
        CHECK.due("public", Modifier.isPublic(makers[0].getModifiers()) && makers[0].getParameterCount() == 0 ? 1 : 0, 1);
        int modifiers = RibbonRoads.class.getModifiers();
        CHECK.due("public and final", Modifier.isPublic(modifiers) && Modifier.isFinal(modifiers) ? 1 : 0, 1);
    }

    public static void main(String[] args) throws IOException {
        String source = Files.readString(SOURCE);
        words(source);
        lengths(source);
        face(Files.readString(DOCUMENT));
        CHECK.end();
    }
}
