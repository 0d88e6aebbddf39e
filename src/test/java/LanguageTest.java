import java.nio.file.Files;
import java.nio.file.Path;
import java.util.List;
import java.util.Map;
import java.util.Set;
import java.util.TreeMap;
import java.util.TreeSet;
import java.util.regex.Matcher;
import java.util.regex.Pattern;

/** What of the language's rules can be seen in the text of the class without a parser. */
public final class LanguageTest {
    static final String[] RULED_OUT = {
        "->", "::", "\\bfinally\\b", "\\bsynchronized\\b", "\\bassert\\b", "\\bcatch\\b", "\\btry\\b", "Exact\\(",
        "\\bpackage\\b", "\\bSystem\\.(?!arraycopy\\b)", "\\bThread\\b", "\\bRandom\\b", "\\.hashCode\\(", "\\.toString\\(",
        "\\.equals\\(", "\\bprotected\\b", "\\bwhile \\(true\\)", "\\bfor \\(;;\\)", "\\bdouble\\b", "\\bfloat\\b",
        "\\bMAX_VALUE\\b", "\\bMIN_VALUE\\b", "\\bvar\\b", "\\bvolatile\\b", "\\bstatic \\{"};

    static int wrong = 0;

    static void fail(String what) {
        wrong++;
        System.out.println(what);
    }

    static String withoutComments(String text) {
        return text.replaceAll("(?s)/\\*.*?\\*/", "").replaceAll("//[^\n]*", "");
    }

    public static void main(String[] args) throws Exception {
        String text = withoutComments(Files.readString(Path.of("src/main/java/NinetyLamps.java")));
        for (String word : RULED_OUT) {
            if (Pattern.compile(word).matcher(text).find()) {
                fail("ruled out: " + word);
            }
        }
        for (String line : text.split("\n")) {
            if (line.startsWith("import") && !line.matches("import java\\.util\\.(Arrays|NoSuchElementException);")) {
                fail("not of the library: " + line);
            }
            Matcher fill = Pattern.compile("\\bArrays\\.(\\w+)").matcher(line);
            if (fill.find() && !List.of("fill", "copyOf", "copyOfRange").contains(fill.group(1))) {
                fail("not of the library: " + line);
            }
        }
        int classes = text.split("\\bclass \\w+").length - 1;
        if (classes > 12) {
            fail("too many classes: " + classes);
        }
        lookAtMethods(text);
        for (String name : bodies.keySet()) {
            int depth = depthOf(name, new TreeSet<>());
            if (depth > 8) {
                fail(name + " goes " + depth + " calls deep");
            }
        }
        System.out.println(wrong == 0 ? "the language is kept" : "the language is not kept");
        System.exit(wrong == 0 ? 0 : 1);
    }

    /** Bodies of methods by name; those of one name in several classes are taken as one. */
    static final Map<String, String> bodies = new TreeMap<>();

    /** How deep calls go from a method, itself counted; a recursion is counted once. */
    static int depthOf(String name, Set<String> open) {
        int most = 0;
        open.add(name);
        Matcher call = Pattern.compile("\\b(\\w+)\\(").matcher(bodies.get(name));
        Set<String> called = new TreeSet<>();
        while (call.find()) {
            if (bodies.containsKey(call.group(1)) && !open.contains(call.group(1)) && called.add(call.group(1))) {
                most = Math.max(most, depthOf(call.group(1), open));
            }
        }
        open.remove(name);
        return most + 1;
    }

    static void lookAtMethods(String text) {
        Matcher head = Pattern.compile("(?m)^( +)[\\w\\[\\] ]*\\b(\\w+)\\(([^()]*)\\)[\\w ]* \\{$").matcher(text);
        int found = 0;
        while (head.find()) {
            if (List.of("if", "for", "while", "switch").contains(head.group(2))) {
                continue;
            }
            found++;
            int end = text.indexOf("\n" + head.group(1) + "}", head.end());
            int lines = text.substring(head.start(), end + 1).split("\n").length + 1;
            bodies.merge(head.group(2), text.substring(head.end(), end), String::concat);
            int parameters = head.group(3).isEmpty() ? 0 : head.group(3).split(",").length;
            if (lines > 60 || parameters > 7) {
                fail(head.group(2) + " has " + lines + " lines, " + parameters + " parameters");
            }
        }
        if (found < 49) {
            fail("methods found: " + found);
        }
    }
}
