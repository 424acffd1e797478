import java.io.IOException;
import java.lang.reflect.Constructor;
import java.lang.reflect.Field;
import java.lang.reflect.Method;
import java.lang.reflect.Modifier;
import java.nio.charset.StandardCharsets;
import java.nio.file.Files;
import java.nio.file.Path;
import java.util.ArrayList;
import java.util.List;
import java.util.Set;
import java.util.TreeSet;
import java.util.regex.Matcher;
import java.util.regex.Pattern;

/** The face as the document has it, and the rules of LANGUAGE.md that a plain look can tell. */
public final class FaceTest {
    private static final Path SOURCE = Path.of("src/main/java/CombCylinder.java");
    private static final Path DOCUMENT = Path.of("../shared/DOC.md");

    public static void main(String[] args) throws IOException {
        face();
        members();
        source();
        Check.end("FaceTest");
    }

    /** Each line of the document's face, against what the class has. */
    private static void face() throws IOException {
        Set<String> due = new TreeSet<>();
        for (String line : Files.readAllLines(DOCUMENT, StandardCharsets.UTF_8)) {
            if (line.startsWith("    public ") && line.contains("(") && line.endsWith(";")) {
                due.add(withoutNames(line.trim()));
            }
        }
        Set<String> got = new TreeSet<>();
        for (Method m : CombCylinder.class.getDeclaredMethods()) {
            if (!Modifier.isPrivate(m.getModifiers()) && !m.isSynthetic()) {
                got.add(told(m.getModifiers(), m.getReturnType().getName() + " " + m.getName(),
                        m.getParameterTypes(), m.getExceptionTypes()));
            }
        }
        for (Constructor<?> c : CombCylinder.class.getDeclaredConstructors()) {
            got.add(told(c.getModifiers(), c.getName(), c.getParameterTypes(), c.getExceptionTypes()));
        }
        Check.same("lines of the face", due.size(), 44);
        for (String line : due) {
            Check.yes("the class has " + line, got.contains(line));
        }
        for (String line : got) {
            Check.yes("the document has " + line, due.contains(line));
        }
    }

    private static String withoutNames(String line) {
        int open = line.indexOf('(');
        int close = line.indexOf(')');
        List<String> types = new ArrayList<>();
        for (String part : line.substring(open + 1, close).split(",")) {
            if (!part.isBlank()) {
                types.add(part.trim().split(" ")[0]);
            }
        }
        String thrown = line.substring(close + 1, line.length() - 1).replace("throws", "").replace(" ", "");
        return line.substring(0, open) + types + " throws [" + thrown.replace(",", ", ") + "]";
    }

    private static String told(int modifiers, String name, Class<?>[] taken, Class<?>[] thrown) {
        List<String> types = new ArrayList<>();
        for (Class<?> type : taken) {
            types.add(type.getName());
        }
        List<String> exceptions = new ArrayList<>();
        for (Class<?> type : thrown) {
            exceptions.add(type.getSimpleName());
        }
        return Modifier.toString(modifiers) + " " + name + types + " throws " + exceptions;
    }

    private static void members() {
        Class<?> type = CombCylinder.class;
        Check.same("public and final", type.getModifiers() & (Modifier.PUBLIC | Modifier.FINAL),
                Modifier.PUBLIC | Modifier.FINAL);
        Set<String> open = new TreeSet<>();
        for (Method m : type.getDeclaredMethods()) {
            if (Modifier.isPublic(m.getModifiers())) {
                open.add(m.getName());
            }
        }
        checkMembers(type, open);
        Check.yes("at most 12 classes", type.getDeclaredClasses().length < 12);
        for (Class<?> inside : type.getDeclaredClasses()) {
            Check.yes(inside + " is static", Modifier.isStatic(inside.getModifiers()));
            Check.no(inside + " is public", Modifier.isPublic(inside.getModifiers()));
            Check.no(inside + " is protected", Modifier.isProtected(inside.getModifiers()));
            checkMembers(inside, open);
        }
        for (Field field : type.getDeclaredFields()) {
            Check.yes(field + " is private", Modifier.isPrivate(field.getModifiers()));
        }
    }

    private static void checkMembers(Class<?> type, Set<String> open) {
        int own = 0;
        for (Field field : type.getDeclaredFields()) {
            if (Modifier.isStatic(field.getModifiers())) {
                Check.yes(field + " is final", Modifier.isFinal(field.getModifiers()));
                Check.yes(field + " is plain", field.getType() == int.class || field.getType() == long.class);
            } else {
                own++;
            }
        }
        Check.yes(type + " has at most 20 fields", own <= 20);
        for (Method m : type.getDeclaredMethods()) {
            if (type != CombCylinder.class || !Modifier.isPublic(m.getModifiers())) {
                Check.no(m + " bears a public one's name", open.contains(m.getName()));
                Check.no(m + " is public", Modifier.isPublic(m.getModifiers()));
            }
            Check.yes(m + " takes at most 7", m.getParameterCount() <= 7);
        }
    }

    private static void source() throws IOException {
        String text = Files.readString(SOURCE, StandardCharsets.US_ASCII);
        String code = text.replaceAll("(?s)/\\*.*?\\*/", " ").replaceAll("//[^\n]*", " ")
                .replaceAll("\"[^\"\n]*\"", "\"\"");
        String[] never = {"package ", "->", "::", "\\bsynchronized\\b", "\\bassert\\b", "\\btry\\b", "\\bcatch\\b",
            "\\bfinally\\b", "\\bstatic \\{", "\\binstanceof\\b", "\\bFloat\\b", "\\bDouble\\b", "\\bSystem\\b",
            "\\bThread\\b", "\\bnull\\b", "\\bObject\\b", "Exact\\b", "\\bequals\\b", "\\bhashCode\\b",
            "\\btoString\\b", "%", "\"\" \\+", "\\+ \"\"", "\\bvar\\b", "\\byield\\b", "\\brecord\\b"};
        for (String word : never) {
            Check.no("the source has " + word, Pattern.compile(word).matcher(code).find());
        }
        Matcher imports = Pattern.compile("import ([^;]*);").matcher(code);
        while (imports.find()) {
            Check.yes("import " + imports.group(1), imports.group(1).equals("java.util.NoSuchElementException"));
        }
        Matcher maths = Pattern.compile("Math\\.(\\w+)").matcher(code);
        while (maths.find()) {
            Check.yes("Math." + maths.group(1), Set.of("abs", "min", "max").contains(maths.group(1)));
        }
        Matcher thrown = Pattern.compile("throw ([^;]*);").matcher(code);
        while (thrown.find()) {
            Check.yes("throw " + thrown.group(1), thrown.group(1).matches("new (IllegalState|IllegalArgument"
                    + "|IndexOutOfBounds|Arithmetic|UnsupportedOperation|NoSuchElement)Exception\\(\"\"\\)"));
        }
        methodLengths(code);
    }

    private static void methodLengths(String code) {
        int begun = -1;
        int line = 0;
        for (String row : code.split("\n", -1)) {
            line++;
            if (row.matches(" {4}( {4})?\\S.*\\{") && !row.contains(" class ")) {
                begun = line;
            }
            if (row.matches(" {4}( {4})?\\}") && begun > 0) {
                Check.yes("the method at line " + begun + " is short", line - begun <= 60);
                begun = -1;
            }
        }
    }
}
