import java.lang.reflect.InvocationTargetException;
import java.lang.reflect.Method;
import java.lang.reflect.Modifier;
import java.nio.file.Files;
import java.nio.file.Path;
import java.util.TreeMap;
import java.util.regex.Matcher;
import java.util.regex.Pattern;

/** What README.md says of the class holds: its calls, its lines of a text, its table of all calls. */
final class ReadmeTest {
    private static final Pattern CALL = Pattern.compile("drum\\.(\\w+)\\((.*?)\\);\\s*// (throws \\w+|[-\\w]+).*");

    private ReadmeTest() {
    }

    public static void main(String[] args) throws Exception {
        String readme = Files.readString(Path.of("README.md"));
        calls(block(readme, "java"));
        lines(block(readme, "text"));
        table(readme);
        Check.end();
    }

    private static String block(String readme, String kind) {
        Matcher m = Pattern.compile("```" + kind + "\n(.*?)```", Pattern.DOTALL).matcher(readme);
        boolean isThere = m.find();
        Check.due("README.md has an example in " + kind, isThere, true);
        return isThere ? m.group(1) : "";
    }

    private static void calls(String example) throws IllegalAccessException {
        LaughDrum drum = new LaughDrum();
        for (String line : example.split("\n")) {
            Matcher m = CALL.matcher(line);
            if (m.matches()) {
                String got = answer(drum, m.group(1), m.group(2));
                Check.due(line + " answered " + got, got.equals(m.group(3)), true);
            } else {
                Check.due("a call with its answer: " + line, line.equals("LaughDrum drum = new LaughDrum();"), true);
            }
        }
    }

    private static String answer(LaughDrum drum, String name, String written) throws IllegalAccessException {
        String[] parts = written.isEmpty() ? new String[0] : written.split(", ");
        Object[] values = new Object[parts.length];
        for (int i = 0; i < parts.length; i++) {
            values[i] = value(parts[i]);
        }
        try {
            return String.valueOf(named(name).invoke(drum, values));
        } catch (InvocationTargetException e) {
            return "throws " + e.getCause().getClass().getSimpleName();
        }
    }

    private static Object value(String written) {
        if (written.equals("true") || written.equals("false")) {
            return written.equals("true");
        }
        String[] shifted = written.split(" << ");
        int number = Integer.parseUnsignedInt(shifted[0].replace("0x", ""), shifted[0].startsWith("0x") ? 16 : 10);
        return shifted.length > 1 ? number << Integer.parseInt(shifted[1]) : number;
    }

    private static Method named(String name) {
        for (Method m : LaughDrum.class.getDeclaredMethods()) {
            if (m.getName().equals(name) && Modifier.isPublic(m.getModifiers())) {
                return m;
            }
        }
        throw new IllegalArgumentException("the face has no " + name);
    }

    /** One line of each kind; kin needs a second box. */
    private static void lines(String example) {
        StringBuilder text = new StringBuilder("box b 1 1 1 1 1 1 1 1 1 1;");
        int lines = 1;
        for (String line : example.split("\n")) {
            text.append(line, 0, line.indexOf(';') + 1);
            lines++;
        }
        LaughDrum drum = new LaughDrum();
        Check.due("the lines of a text: " + text, Check.text(drum, text.toString()), lines);
        Check.due("one of each of seven kinds", lines, 8);
    }

    private static void table(String readme) {
        TreeMap<String, Integer> told = new TreeMap<>();
        for (String line : readme.split("\n")) {
            Matcher m = Pattern.compile("`(\\w+)`").matcher(line);
            while (line.startsWith("| ") && m.find()) {
                told.merge(m.group(1), 1, Integer::sum);
            }
        }
        int calls = 0;
        for (Method m : LaughDrum.class.getDeclaredMethods()) {
            if (Modifier.isPublic(m.getModifiers())) {
                Check.due("the table names " + m.getName(), told.getOrDefault(m.getName(), 0), 1);
                calls++;
            }
        }
        Check.due("calls that the table names", told.size(), calls);
    }
}
