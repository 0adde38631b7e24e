import java.io.IOException;
import java.lang.reflect.Method;
import java.net.URL;
import java.net.URLClassLoader;
import java.nio.file.Files;
import java.nio.file.Path;
import java.util.ArrayList;
import java.util.List;
import java.util.regex.Matcher;
import java.util.regex.Pattern;
import javax.tools.JavaCompiler;
import javax.tools.ToolProvider;

/**
 * README.md: its lines of Java, as one program, answer what stands behind them; the texts that it
 * tells as SHOWN are, and THE LINE has as many bytes as its text; the examples use every call, and
 * the table has each of them.
 */
public final class ReadmeTest {
    private static final Pattern BLOCK = Pattern.compile("(?s)```java\n(.*?)```");
    private static final Pattern LINE = Pattern.compile("(?:int (\\w+) = )?(.*?);(?:\\s*// (.*))?");
    private static final Pattern ANSWER = Pattern.compile("(NONE|the least long|true|false|-?\\d+|'.')(?:: (.*))?");
    private static final Pattern TEXT = Pattern.compile("(SHOWN|THE LINE) is \"(.*)\"");
    private static final String HEAD = "import java.util.ArrayList;\nimport java.util.List;\npublic final class ReadmeRun {\n"
            + "static String display(TypedAmounts x) {\nString text = \"\";\n"
            + "for (int k = 0; k < x.count(3); k++) text += (char) x.shown(k);\nreturn text;\n}\n"
            + "public static List<String> run() {\nList<String> got = new ArrayList<>();\n";

    private final StringBuilder program = new StringBuilder(HEAD);
    private final List<String> told = new ArrayList<>();
    private final List<String> wanted = new ArrayList<>();

    public static void main(String[] args) throws IOException, ReflectiveOperationException {
        String readme = Files.readString(Path.of("README.md"));
        ReadmeTest test = new ReadmeTest();
        StringBuilder examples = new StringBuilder();
        for (Matcher block = BLOCK.matcher(readme); block.find();) {
            examples.append(block.group(1));
            for (String line : block.group(1).split("\n")) {
                test.add(line.trim());
            }
        }
        test.compare();
        everyCall(examples.toString(), readme);
        Check.end();
    }

    private void add(String line) {
        if (line.isEmpty()) {
            return;
        }
        Matcher parts = LINE.matcher(line);
        if (!parts.matches()) {
            Check.due("a line of README.md", line, "a statement, and its answer");
            return;
        }
        Matcher answer = ANSWER.matcher(parts.group(3) == null ? "" : parts.group(3));
        boolean answers = parts.group(2).startsWith("x.") && !parts.group(2).equals("x.clear()");
        Check.due("an answer stands behind: " + line, answer.matches(), answers);
        if (!answer.matches()) {
            program.append(line.replaceAll("//.*", "")).append('\n');
            return;
        }
        String name = parts.group(1);
        program.append(name == null ? "" : "int " + name + " = " + parts.group(2) + ";\n");
        want(line, "String.valueOf(" + (name == null ? parts.group(2) : name) + ")", number(answer.group(1)));
        Matcher text = TEXT.matcher(answer.group(2) == null ? "" : answer.group(2));
        if (text.matches() && text.group(1).equals("SHOWN")) {
            want(line, "display(x)", text.group(2));
        } else if (text.matches()) {
            want(line, "String.valueOf(x.count(1))", String.valueOf(text.group(2).length()));
        }
    }

    private static String number(String answer) {
        if (answer.equals("the least long")) {
            return String.valueOf(Long.MIN_VALUE);
        }
        if (answer.startsWith("'")) {
            return String.valueOf((int) answer.charAt(1));
        }
        return answer.equals("NONE") ? "-1" : answer;
    }

    private void want(String line, String expression, String answer) {
        program.append("got.add(").append(expression).append(");\n");
        told.add(line);
        wanted.add(answer);
    }

    private void compare() throws IOException, ReflectiveOperationException {
        Path directory = Files.createTempDirectory("readme");
        Path source = directory.resolve("ReadmeRun.java");
        Path compiled = directory.resolve("ReadmeRun.class");
        Files.writeString(source, program.append("return got;\n}\n}\n"));
        JavaCompiler compiler = ToolProvider.getSystemJavaCompiler();
        int failed = compiler.run(null, null, null, "-cp", System.getProperty("java.class.path"), "-d", directory.toString(), source.toString());
        Check.due("README.md's lines as a program do not compile", failed, 0);
        if (failed == 0) {
            try (URLClassLoader loader = new URLClassLoader(new URL[] {directory.toUri().toURL()})) {
                List<?> got = (List<?>) loader.loadClass("ReadmeRun").getMethod("run").invoke(null);
                for (int i = 0; i < wanted.size(); i++) {
                    Check.due(told.get(i), String.valueOf(got.get(i)), wanted.get(i));
                }
            }
        }
        Files.deleteIfExists(compiled);
        Files.deleteIfExists(source);
        Files.deleteIfExists(directory);
    }

    private static void everyCall(String examples, String readme) {
        for (Method method : TypedAmounts.class.getMethods()) {
            if (method.getDeclaringClass() == TypedAmounts.class) {
                String name = method.getName();
                Check.due("an example of " + name, examples.contains("x." + name + "("), true);
                Matcher row = Pattern.compile("(?m)^\\| `" + name + "\\(([^)]*)\\)` \\|").matcher(readme);
                boolean found = row.find();
                Check.due("the table has " + name, found, true);
                String parameters = found ? row.group(1) : "";
                int many = parameters.isEmpty() ? 0 : parameters.split(", ").length;
                Check.due("parameters of " + name + " in the table", many, method.getParameterCount());
            }
        }
    }
}
