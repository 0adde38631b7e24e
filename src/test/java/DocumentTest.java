import java.io.IOException;
import java.lang.reflect.Field;
import java.lang.reflect.Method;
import java.lang.reflect.Modifier;
import java.nio.file.DirectoryStream;
import java.nio.file.Files;
import java.nio.file.Path;
import java.util.Arrays;
import java.util.LinkedHashMap;
import java.util.Map;
import java.util.Set;
import java.util.TreeSet;
import java.util.regex.Matcher;
import java.util.regex.Pattern;

/**
 * Holds the tests against ../shared/DOC.md: what a test quotes by Check.sentence stands there, under
 * the heading that it names; every word from 'What it is' to Promise 24 is quoted by some test, or is
 * of the public face, which the class has just so; and every method of a test is called.
 */
public final class DocumentTest {
    private static final Pattern QUOTE = Pattern.compile("Check\\.sentence\\(\\s*\"([^\"]*)\",\\s*((?:\"(?:[^\"\\\\]|\\\\.)*\"\\s*\\+?\\s*)+)\\)");
    private static final Pattern LITERAL = Pattern.compile("\"((?:[^\"\\\\]|\\\\.)*)\"");
    private static final Pattern PROMISE = Pattern.compile("(?s)## (Promise \\d+): [^\n]*\n\n`([^`]*)`: (.*?)(?=\n## )");
    private static final Pattern HEAD = Pattern.compile("(?m)^    private static [\\w<>\\[\\]]+ (\\w+)\\(");
    private static final int PROMISES = 24;

    private static final Map<String, String> SECTIONS = new LinkedHashMap<>();
    private static final Map<String, boolean[]> QUOTED = new LinkedHashMap<>();

    public static void main(String[] args) throws IOException {
        String document = Files.readString(Path.of("../shared/DOC.md"));
        split(document);
        try (DirectoryStream<Path> tests = Files.newDirectoryStream(Path.of("src/test/java"), "*Test.java")) {
            for (Path test : tests) {
                String source = Files.readString(test);
                quotesOf(test.getFileName().toString(), source);
                everyMethodIsCalled(test.getFileName().toString(), source);
            }
        }
        for (String section : SECTIONS.keySet()) {
            isQuoted(section);
        }
        face(document);
        Check.end();
    }

    private static void put(String section, String text) {
        String words = text.replaceAll("```(text)?", " ").replaceAll("\\s+", " ").trim();
        SECTIONS.put(section, words);
        QUOTED.put(section, new boolean[words.length()]);
    }

    private static String between(String text, String from, String to) {
        int begin = text.indexOf(from);
        int end = text.indexOf(to, Math.max(begin, 0));
        Check.due("the document has '" + from.trim() + "' and '" + to.trim() + "' behind it", begin >= 0 && end >= 0, true);
        return begin >= 0 && end >= 0 ? text.substring(begin + from.length(), end) : "";
    }

    private static void split(String document) {
        put("What it is", between(document, "## What it is\n", "\n## "));
        put("The constants", between(document, "\nThe constants: ", "\n## "));
        String terms = between(document, "## Terms\n", "\nThe constants: ") + "\n5. ";
        for (int i = 1; i <= 4; i++) {
            put("Term " + i, between(terms, "\n" + i + ". ", "\n" + (i + 1) + ". "));
        }
        int promises = 0;
        for (Matcher found = PROMISE.matcher(document); found.find(); promises++) {
            put(found.group(1), found.group(3));
        }
        Check.due("promises", promises, PROMISES);
    }

    private static void quotesOf(String test, String source) {
        for (Matcher found = QUOTE.matcher(source); found.find();) {
            StringBuilder words = new StringBuilder();
            for (Matcher literal = LITERAL.matcher(found.group(2)); literal.find();) {
                words.append(literal.group(1).replace("\\\"", "\""));
            }
            mark(test, found.group(1), words.toString());
        }
    }

    private static void mark(String test, String section, String words) {
        String text = SECTIONS.getOrDefault(section, "");
        int at = text.indexOf(words);
        Check.due(test + " quotes what stands in '" + section + "': " + words, at >= 0 && !words.isEmpty(), true);
        if (at >= 0 && !words.isEmpty()) {
            Arrays.fill(QUOTED.get(section), at, at + words.length(), true);
        }
    }

    /** Only signs and blanks may stand between what is quoted. */
    private static void isQuoted(String section) {
        String text = SECTIONS.get(section);
        boolean[] quoted = QUOTED.get(section);
        StringBuilder left = new StringBuilder();
        for (int i = 0; i < text.length(); i++) {
            left.append(quoted[i] ? '\n' : text.charAt(i));
        }
        String words = left.toString().replaceAll("\n+", " .. ");
        Check.due("words of '" + section + "' that no test quotes: " + words, words.matches(".*[A-Za-z0-9].*"), false);
    }

    private static void everyMethodIsCalled(String test, String source) {
        for (Matcher found = HEAD.matcher(source); found.find();) {
            String name = found.group(1);
            int times = source.split("\\b" + name + "\\b", -1).length - 1;
            Check.due(test + " calls its method " + name, times > 1, true);
        }
    }

    private static String plain(String declared) {
        return declared.replace("public ", "").replaceAll(" \\w+(?=[,)])", "").replace(", ", ",").trim();
    }

    private static void face(String document) {
        String block = between(document, "```java\n", "\n```");
        Set<String> due = new TreeSet<>();
        for (String line : block.split("\n")) {
            if (line.endsWith(";")) {
                due.add(plain(line.substring(0, line.length() - 1)));
            }
        }
        Set<String> got = new TreeSet<>();
        for (Method method : TypedAmounts.class.getMethods()) {
            if (method.getDeclaringClass() == TypedAmounts.class) {
                String types = Arrays.toString(method.getParameterTypes()).replaceAll("[\\[\\] ]", "");
                got.add(method.getReturnType() + " " + method.getName() + "(" + types + ")");
            }
        }
        for (Field field : TypedAmounts.class.getFields()) {
            got.add(Modifier.toString(field.getModifiers()).replace("public ", "") + " " + field.getType() + " " + field.getName()
                    + " = " + TypedAmounts.NONE);
        }
        if (TypedAmounts.class.getConstructors().length == 1) {
            got.add("TypedAmounts()");
        }
        Check.due("the public face", got.toString(), due.toString());
        for (Matcher found = PROMISE.matcher(document); found.find();) {
            Check.due("the face has " + found.group(2), due.contains(plain(found.group(2))), true);
        }
    }
}
