import java.io.IOException;
import java.lang.reflect.InvocationTargetException;
import java.lang.reflect.Method;
import java.nio.charset.StandardCharsets;
import java.nio.file.Files;
import java.nio.file.Path;
import java.util.ArrayList;
import java.util.List;
import java.util.regex.Matcher;
import java.util.regex.Pattern;

/** The examples of the document and those of README.md, made call by call as they stand there. */
public final class ExamplesTest {
    private static final Pattern CALL = Pattern.compile("(\\w+)\\(([^()]*)\\)");

    public static void main(String[] args) throws IOException {
        Check.same("examples of the document", ofDocument(), 3);
        Check.same("examples of README.md", ofReadme(), 2);
        Check.end("ExamplesTest");
    }

    /** Lines behind 'Examples', such as: - coin(40, 20) = true; takings(7) = 7. */
    private static int ofDocument() throws IOException {
        int examples = 0;
        boolean isBehind = false;
        for (String line : lines("../shared/DOC.md")) {
            isBehind = line.startsWith("Examples:") || isBehind && !line.startsWith("## ");
            if (isBehind && line.startsWith("- ")) {
                List<String> rows = new ArrayList<>();
                for (String row : line.substring(2, line.lastIndexOf('.')).split("; ")) {
                    rows.add(row);
                }
                Check.yes("calls in '" + line + "'", !rows.isEmpty());
                makeAll("DOC.md", rows);
                examples++;
            }
        }
        return examples;
    }

    /** Code, each line of which is such as: box.takings(7);   // = 7, a remark */
    private static int ofReadme() throws IOException {
        int examples = 0;
        List<String> rows = null;
        for (String line : lines("README.md")) {
            if (line.equals("CombCylinder box = new CombCylinder();")) {
                rows = new ArrayList<>();
            } else if (line.equals("```") && rows != null) {
                makeAll("README.md", rows);
                rows = null;
                examples++;
            } else if (rows != null) {
                Matcher row = Pattern.compile("box\\.(.*\\)); +// = ([^,]+)(, .*)?").matcher(line);
                Check.yes("README.md's line is a call with its answer: " + line, row.matches());
                if (row.matches()) {
                    rows.add(row.group(1) + " = " + row.group(2));
                }
            }
        }
        return examples;
    }

    private static List<String> lines(String file) throws IOException {
        return Files.readAllLines(Path.of(file), StandardCharsets.UTF_8);
    }

    private static void makeAll(String file, List<String> rows) {
        CombCylinder box = new CombCylinder();
        for (String row : rows) {
            int sign = row.lastIndexOf(" = ");
            Check.yes(file + ", a call and its answer: " + row, sign > 0);
            if (sign > 0) {
                String got = answer(box, row.substring(0, sign));
                Check.yes(file + ", " + row + ", but it answered " + got, got.equals(row.substring(sign + 3)));
            }
        }
    }

    private static String answer(CombCylinder box, String call) {
        Matcher parts = CALL.matcher(call);
        if (!parts.matches()) {
            return "nothing, as it is no call";
        }
        String[] given = parts.group(2).isEmpty() ? new String[0] : parts.group(2).split(", ");
        for (Method method : CombCylinder.class.getMethods()) {
            if (method.getName().equals(parts.group(1)) && method.getParameterCount() == given.length) {
                return made(box, method, given);
            }
        }
        return "nothing, as there is no such method";
    }

    private static String made(CombCylinder box, Method method, String[] given) {
        Object[] arguments = new Object[given.length];
        for (int i = 0; i < given.length; i++) {
            arguments[i] = read(given[i], method.getParameterTypes()[i]);
        }
        try {
            return String.valueOf(method.invoke(box, arguments));
        } catch (InvocationTargetException e) {
            return "throws." + e.getCause().getClass().getSimpleName();
        } catch (IllegalAccessException e) {
            return "nothing, as it is closed";
        }
    }

    private static Object read(String text, Class<?> type) {
        if (type == char.class) {
            return text.charAt(1);
        }
        if (type == boolean.class) {
            return Boolean.valueOf(text);
        }
        return Integer.valueOf(text);
    }
}
