import java.io.IOException;
import java.lang.reflect.Constructor;
import java.lang.reflect.Field;
import java.lang.reflect.Method;
import java.lang.reflect.Modifier;
import java.nio.file.Files;
import java.nio.file.Path;
import java.util.Set;
import java.util.TreeSet;
import java.util.regex.Matcher;
import java.util.regex.Pattern;

/** The public face of the document, and the rules of LANGUAGE.md that can be seen by simple means. */
public final class LanguageTest {
    private static final String[] FACE = {
        "int land(int,int,int,int,int,boolean,int,int)", "int key(int)", "int keys(int)", "int undo(int)",
        "boolean bounds(int,long,long)", "long value(int,int)", "boolean open(int,int)", "int good(int,int)",
        "int state(int,int)", "int show(int,int,long,int)", "int words(int)", "int shown(int)", "int take()",
        "int spoken()", "long other(int,int,int,long,int)", "int row()", "void clear()", "int fit(int)",
        "int misfit(int,int)", "long sum(int,int)", "int count(int)", "boolean image(int)", "boolean again(int)"};
    private static final String[] FORBIDDEN = {"\\bthrow\\b", "\\btry\\b", "\\bcatch\\b", "\\bsynchronized\\b",
        "\\bassert\\b", "\\bimport\\b", "\\bpackage\\b", "->", "::", "\\w+Exact\\b", "\\bSystem\\.(?!arraycopy)",
        "_VALUE\\b", "\\bvar\\b", "\\bstatic\\s*\\{", "\\brecord\\b"};

    public static void main(String[] args) throws IOException {
        face();
        nested();
        source();
        Check.end();
    }

    private static String signature(Method method) {
        StringBuilder text = new StringBuilder(method.getReturnType().getName() + " " + method.getName() + "(");
        for (Class<?> type : method.getParameterTypes()) {
            text.append(text.charAt(text.length() - 1) == '(' ? "" : ",").append(type.getName());
        }
        return text.append(")").toString();
    }

    private static void face() {
        Set<String> open = new TreeSet<>();
        Set<String> openNames = new TreeSet<>();
        for (Method method : TypedAmounts.class.getDeclaredMethods()) {
            if (!Modifier.isPrivate(method.getModifiers())) {
                open.add(signature(method));
                openNames.add(method.getName());
                Check.due(method + " is public", Modifier.isPublic(method.getModifiers()), true);
            }
        }
        Check.due("methods", open.toString(), new TreeSet<>(Set.of(FACE)).toString());
        for (Method method : TypedAmounts.class.getDeclaredMethods()) {
            boolean isPrivate = Modifier.isPrivate(method.getModifiers());
            Check.due(method + " bears a public name", isPrivate && openNames.contains(method.getName()), false);
            Check.due(method + " takes more than seven", isPrivate && method.getParameterCount() > 7, false);
        }
        for (Class<?> inside : TypedAmounts.class.getDeclaredClasses()) {
            for (Method method : inside.getDeclaredMethods()) {
                Check.due(method + " bears a public name", openNames.contains(method.getName()), false);
                Check.due(method + " takes more than seven", method.getParameterCount() > 7, false);
            }
        }
        for (Field field : TypedAmounts.class.getDeclaredFields()) {
            boolean isNone = field.getName().equals("NONE");
            Check.due(field + " is public", Modifier.isPublic(field.getModifiers()), isNone);
            Check.due(field + " is private", Modifier.isPrivate(field.getModifiers()), !isNone);
        }
        Constructor<?>[] constructors = TypedAmounts.class.getDeclaredConstructors();
        Check.due("constructors", constructors.length, 1);
        Check.due("constructor's parameters", constructors[0].getParameterCount(), 0);
        Check.due("final", Modifier.isFinal(TypedAmounts.class.getModifiers()), true);
        Check.due("NONE", TypedAmounts.NONE, -1);
    }

    private static void nested() {
        Class<?>[] classes = TypedAmounts.class.getDeclaredClasses();
        Check.due("more than twelve classes", classes.length > 12, false);
        for (Class<?> inside : classes) {
            Check.due(inside + " is static", Modifier.isStatic(inside.getModifiers()), true);
            int fields = 0;
            for (Field field : inside.getDeclaredFields()) {
                boolean isStatic = Modifier.isStatic(field.getModifiers());
                fields += isStatic ? 0 : 1;
                Check.due(field + " is static but not final", isStatic && !Modifier.isFinal(field.getModifiers()), false);
            }
            Check.due(inside + " has more than twenty fields", fields > 20, false);
        }
    }

    private static void source() throws IOException {
        String text = Files.readString(Path.of("src/main/java/TypedAmounts.java"));
        String code = text.replaceAll("(?s)/\\*.*?\\*/", "").replaceAll("//[^\n]*", "").replaceAll("\"[^\"\n]*\"", "\"\"");
        for (String rule : FORBIDDEN) {
            Matcher found = Pattern.compile(rule).matcher(code);
            Check.due("the source has " + rule, found.find(), false);
        }
        Check.due("joins texts by +", Pattern.compile("\"\\s*\\+|\\+\\s*\"").matcher(code).find(), false);
        methodsAreShort(text.split("\n"));
    }

    private static void methodsAreShort(String[] lines) {
        Pattern head = Pattern.compile("( ++)(?=[A-Z]\\w*\\(|(?:public|private|static|int|long|boolean|void|String|Land) ).*\\(.*\\) \\{");
        for (int i = 0; i < lines.length; i++) {
            Matcher found = head.matcher(lines[i]);
            if (!found.matches()) {
                continue;
            }
            int end = i;
            while (end < lines.length && !lines[end].equals(found.group(1) + "}")) {
                end++;
            }
            Check.due("more than sixty lines from " + lines[i].trim(), end - i + 1 > 60, false);
        }
    }
}
