import java.lang.reflect.Constructor;
import java.lang.reflect.Field;
import java.lang.reflect.Method;
import java.lang.reflect.Modifier;
import java.nio.file.Files;
import java.nio.file.Path;
import java.util.ArrayList;
import java.util.List;
import java.util.TreeSet;
import java.util.regex.Matcher;
import java.util.regex.Pattern;

/** The face as the document tells it, and what can be seen of LANGUAGE.md's rules in the source. */
final class FaceTest {
    private static final String[] FACE = {
        "feed int int int int int int", "text int int", "fault int int", "named int int int", "box int int int",
        "pin int int int", "heard int int int", "guest int int int", "kin int int int", "law long int int",
        "wind int int int", "steal boolean int boolean", "tooth boolean int int boolean", "years int int",
        "ahead int int int int", "alike int int int int", "like int int int int", "whose int", "fill int int int",
        "join int int int", "duet int int int", "tree int", "far int int int", "forged int", "lasts int int",
        "winding int int int int", "laughBack int int", "rests int int", "rest int int int", "ask int int",
        "stay int int", "line int int", "quote int int int", "merriest int", "silent int", "runDown int int",
        "find int int int boolean", "strike int int", "known boolean int", "sours int int",
        "chance int int int int int", "tried int int int int", "undo int", "keep int", "back int", "count int int"};

    public static void main(String[] args) throws Exception {
        face();
        asTheDocumentTells();
        source();
        Check.end();
    }

    private static void face() {
        TreeSet<String> got = new TreeSet<>();
        TreeSet<String> names = new TreeSet<>();
        for (Method m : LaughDrum.class.getDeclaredMethods()) {
            if (Modifier.isPrivate(m.getModifiers())) {
                continue;
            }
            StringBuilder s = new StringBuilder(m.getName()).append(' ').append(m.getReturnType().getName());
            for (Class<?> p : m.getParameterTypes()) {
                s.append(' ').append(p.getName());
            }
            got.add(s.toString());
            names.add(m.getName());
            Check.due(m.getName() + " is public", Modifier.isPublic(m.getModifiers()), true);
        }
        Check.due("the face's methods " + got, got.equals(new TreeSet<>(List.of(FACE))), true);
        Check.due("46 of them", got.size(), 46);
        hidden(names);
        for (Field f : LaughDrum.class.getDeclaredFields()) {
            Check.due(f.getName() + " is private or NONE", Modifier.isPrivate(f.getModifiers()) || f.getName().equals("NONE"), true);
        }
        for (Constructor<?> c : LaughDrum.class.getDeclaredConstructors()) {
            Check.due("constructor", Modifier.isPublic(c.getModifiers()) && c.getParameterCount() == 0, true);
        }
        Check.due("NONE", LaughDrum.NONE, -1);
        Check.due("final", Modifier.isFinal(LaughDrum.class.getModifiers()), true);
    }

    /** Each line of the document's face must stand in the source, and no other public one. */
    private static void asTheDocumentTells() throws Exception {
        String document = Files.readString(Path.of("../shared/DOC.md"));
        String source = Files.readString(Path.of("src/main/java/LaughDrum.java"));
        String face = document.replaceFirst("(?s).*?## The public face\\s*```java\n(.*?)```.*", "$1");
        int lines = 0;
        for (String line : face.split("\n")) {
            String body = line.contains("(") ? line.replaceFirst(";$", " {") : line;
            Check.due("the source has '" + body + "'", ("\n" + source).contains("\n" + body + "\n"), true);
            lines += line.contains("public ") ? 1 : 0;
        }
        Check.due("a class, a constant, a constructor, 46 methods", lines, 49);
        Check.due("public lines of the source", source.lines().filter(line -> line.matches("\\s*public .*")).count(), lines);
    }

    private static void hidden(TreeSet<String> names) {
        for (Method m : LaughDrum.class.getDeclaredMethods()) {
            Check.due("private " + m.getName(), Modifier.isPrivate(m.getModifiers()) && names.contains(m.getName()), false);
            Check.due("parameters of " + m.getName(), m.getParameterCount() > 7, false);
        }
        Class<?>[] inside = LaughDrum.class.getDeclaredClasses();
        Check.due("classes inside", inside.length > 11, false);
        for (Class<?> c : inside) {
            Check.due(c + " is static", Modifier.isStatic(c.getModifiers()) && !Modifier.isPublic(c.getModifiers()), true);
            int fields = 0;
            for (Field f : c.getDeclaredFields()) {
                boolean isStatic = Modifier.isStatic(f.getModifiers());
                fields += isStatic ? 0 : 1;
                Check.due(c + "." + f.getName(), isStatic && !Modifier.isFinal(f.getModifiers()), false);
            }
            Check.due("fields of " + c, fields > 20, false);
            for (Method m : c.getDeclaredMethods()) {
                Check.due(c + "." + m.getName() + " bears a name of the face", names.contains(m.getName()), false);
                Check.due("parameters of " + m.getName(), m.getParameterCount() > 7, false);
            }
        }
    }

    private static void source() throws Exception {
        String source = Files.readString(Path.of("src/main/java/LaughDrum.java"));
        String code = source.replaceAll("//[^\n]*", "").replaceAll("(?s)/\\*.*?\\*/", "").replaceAll("\"[^\"\n]*\"", "\"\"");
        Check.due("bytes of 7 bits", source.chars().allMatch(c -> c == 10 || c >= 32 && c < 127), true);
        String[] never = {"->", "::", "\\bcatch\\b", "\\btry\\b", "\\bfinally\\b", "\\bassert\\b", "\\bsynchronized\\b",
            "\\bvar\\b", "Exact\\(", "\\bpackage\\b", "\\bimport\\b(?! java\\.util\\.NoSuchElementException;)",
            "\\bdouble\\b", "\\bfloat\\b", "\\bString\\b", "\\bObject\\b", "\\bSystem\\.(?!arraycopy)", "\\bnull\\b",
            "\\bequals\\b", "\\bhashCode\\b", "\\btoString\\b", "\\bstatic \\{"};
        for (String word : never) {
            Matcher m = Pattern.compile(word).matcher(code);
            Check.due("the source has " + word, m.find(), false);
        }
        for (String line : code.split("\n")) {
            boolean isMadeOnce = line.matches("\\s*(private )?(final )?[A-Za-z]+(\\[\\])? [a-zA-Z]+ = new .*")
                || line.matches("\\s*(boxes\\[i\\]|lawReader) = new .*") || line.contains("throw new ");
            Check.due("a call makes something: " + line, line.contains("new ") && !isMadeOnce, false);
        }
        for (String line : longMethods(code)) {
            Check.due("longer than sixty lines: " + line, 1, 0);
        }
    }

    private static List<String> longMethods(String code) {
        List<String> found = new ArrayList<>();
        String[] lines = code.split("\n");
        for (int i = 0; i < lines.length; i++) {
            String indent = lines[i].replaceAll("\\S.*", "");
            if (lines[i].matches("\\s+\\S[^=;]*\\([^;]*\\{") && indent.length() <= 8 && !lines[i].contains(" new ")) {
                int end = i;
                while (end < lines.length && !lines[end].equals(indent + "}")) {
                    end++;
                }
                if (end - i > 60) {
                    found.add(lines[i]);
                }
            }
        }
        return found;
    }
}
