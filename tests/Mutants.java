import java.io.ByteArrayOutputStream;
import java.io.OutputStream;
import java.io.PrintStream;
import java.io.StringWriter;
import java.lang.reflect.Method;
import java.net.URI;
import java.nio.file.Files;
import java.nio.file.Path;
import java.util.ArrayList;
import java.util.HashMap;
import java.util.List;
import java.util.Map;
import java.util.TreeMap;
import java.util.concurrent.ExecutorService;
import java.util.concurrent.Executors;
import java.util.concurrent.Future;
import java.util.regex.Matcher;
import java.util.regex.Pattern;
import javax.tools.FileObject;
import javax.tools.ForwardingJavaFileManager;
import javax.tools.JavaCompiler;
import javax.tools.JavaFileManager;
import javax.tools.JavaFileObject;
import javax.tools.SimpleJavaFileObject;
import javax.tools.ToolProvider;

/**
 * By hand, not by .ci/run: breaks the class in one place after another, asks the tests of all sentences, and tells which
 * breaks none of them notices and which sentences notice no break. Some breaks change no answer and stay unnoticed.
 */
final class Mutants {
    private static final Path SOURCE = Path.of("src/main/java/LaughDrum.java");
    private static final JavaCompiler COMPILER = ToolProvider.getSystemJavaCompiler();
    // Loops of a broken class may never end: each turn burns some fuel, and without fuel the class throws.
    private static final String FUEL = "private static int fuel = 40000000;"
        + " private static void burn() { if (--fuel < 0) { throw new IllegalStateException(); } }";
    private static final String[][] SIGNS = {{"<", "<=", ">="}, {"<=", "<", ">"}, {">", ">=", "<="}, {">=", ">", "<"},
        {"==", "!="}, {"!=", "=="}, {"&&", "||"}, {"||", "&&"}, {"+", "-"}, {"-", "+"}, {"*", "+"}, {"/", "*"}, {"%", "+"},
        {"&", "|"}, {"|", "&"}, {"^", "|", "&"}, {"<<", ">>"}, {">>", "<<"}};

    private final String source;
    private final String code;
    private final Map<String, byte[]> tests = new HashMap<>();
    private final Map<String, Integer> noticed = new TreeMap<>();

    /** One break: what stands from one place to another is put otherwise. */
    private record Break(int from, int until, String otherwise) {
    }

    private Mutants(String source, Path classes) throws Exception {
        this.source = source;
        StringBuilder blanked = new StringBuilder(source);
        Matcher m = Pattern.compile("//[^\n]*|(?s:/\\*.*?\\*/)|\"[^\"\n]*\"|'[^'\n]+'").matcher(source);
        while (m.find()) {
            for (int i = m.start(); i < m.end(); i++) {
                blanked.setCharAt(i, source.charAt(i) == '\n' ? '\n' : '_');
            }
        }
        code = blanked.toString();
        for (Path file : (Iterable<Path>) Files.list(classes)::iterator) {
            String name = file.getFileName().toString();
            if (name.endsWith(".class") && !name.startsWith("LaughDrum")) {
                tests.put(name.substring(0, name.length() - 6), Files.readAllBytes(file));
            }
        }
    }

    public static void main(String[] args) throws Exception {
        Path classes = Path.of(Mutants.class.getProtectionDomain().getCodeSource().getLocation().toURI());
        PrintStream out = System.out;
        // What the tests tell of each broken class is not for reading.
        System.setOut(new PrintStream(OutputStream.nullOutputStream()));
        new Mutants(Files.readString(SOURCE), classes).run(out);
    }

    private void run(PrintStream out) throws Exception {
        List<Break> breaks = breaks();
        ExecutorService workers = Executors.newFixedThreadPool(Runtime.getRuntime().availableProcessors(), work -> {
            Thread thread = new Thread(work);
            thread.setDaemon(true);
            return thread;
        });
        List<Future<String>> ends = new ArrayList<>();
        for (Break b : breaks) {
            ends.add(workers.submit(() -> end(b)));
        }
        Map<String, Integer> sums = new TreeMap<>();
        for (int i = 0; i < breaks.size(); i++) {
            String end = ends.get(i).get();
            sums.merge(end, 1, Integer::sum);
            if (end.equals("unnoticed")) {
                out.println(told(breaks.get(i)));
            }
        }
        out.println(sums);
        noticed.forEach((sentence, times) -> {
            if (times == 0) {
                out.println("notices nothing: " + sentence);
            }
        });
    }

    private String told(Break b) {
        int line = source.lastIndexOf('\n', b.from) + 1;
        long number = source.substring(0, b.from).lines().count();
        String broken = source.substring(line, b.from) + "[[" + source.substring(b.from, b.until) + " -> " + b.otherwise + "]]";
        return "line " + number + ": " + broken.replaceAll("\\s+", " ").trim();
    }

    private String end(Break b) throws Exception {
        Map<String, byte[]> broken = compiled(withFuel(source.substring(0, b.from) + b.otherwise + source.substring(b.until)));
        if (broken.isEmpty()) {
            return "no Java";
        }
        broken.putAll(tests);
        ClassLoader loader = new ClassLoader(ClassLoader.getPlatformClassLoader()) {
            @Override
            protected Class<?> findClass(String name) throws ClassNotFoundException {
                byte[] bytes = broken.get(name);
                if (bytes == null) {
                    throw new ClassNotFoundException(name);
                }
                return defineClass(name, bytes, 0, bytes.length);
            }
        };
        // The loader's Check is another class than this one's, so what it knows comes as a text.
        Method unlike = loader.loadClass("SentencesTest").getDeclaredMethod("unlike");
        unlike.setAccessible(true);
        Object told = unlike.invoke(null);
        boolean isNoticed = false;
        for (String line : told.toString().split("\n")) {
            int wrong = line.charAt(0) == '!' ? 1 : 0;
            isNoticed |= wrong == 1;
            synchronized (noticed) {
                noticed.merge(line.substring(1), wrong, Integer::sum);
            }
        }
        return isNoticed ? "noticed" : "unnoticed";
    }

    private static String withFuel(String text) {
        StringBuilder fueled = new StringBuilder(text);
        Matcher m = Pattern.compile("\\b(?:for|while) \\(").matcher(text);
        int more = 0;
        while (m.find()) {
            int brace = text.indexOf('{', closing(text, m.end())) + 1;
            fueled.insert(brace + more, " burn();");
            more += " burn();".length();
        }
        return fueled.toString().replace("public LaughDrum()", FUEL + " public LaughDrum()");
    }

    /** Where the bracket closes that was opened ahead of that place. */
    private static int closing(String text, int from) {
        int open = 1;
        int at = from;
        while (open > 0 && at < text.length()) {
            open += text.charAt(at) == '(' ? 1 : text.charAt(at) == ')' ? -1 : 0;
            at++;
        }
        return at - 1;
    }

    private static Map<String, byte[]> compiled(String text) {
        Map<String, ByteArrayOutputStream> made = new HashMap<>();
        JavaFileManager files = new ForwardingJavaFileManager<JavaFileManager>(COMPILER.getStandardFileManager(null, null, null)) {
            @Override
            public JavaFileObject getJavaFileForOutput(Location l, String name, JavaFileObject.Kind kind, FileObject sibling) {
                made.put(name, new ByteArrayOutputStream());
                return new SimpleJavaFileObject(URI.create("mem:///" + name + ".class"), kind) {
                    @Override
                    public OutputStream openOutputStream() {
                        return made.get(name);
                    }
                };
            }
        };
        JavaFileObject file = new SimpleJavaFileObject(URI.create("mem:///LaughDrum.java"), JavaFileObject.Kind.SOURCE) {
            @Override
            public CharSequence getCharContent(boolean ignore) {
                return text;
            }
        };
        boolean isJava = COMPILER.getTask(new StringWriter(), files, d -> { }, List.of("-proc:none"), null, List.of(file)).call();
        Map<String, byte[]> classes = new HashMap<>();
        made.forEach((name, bytes) -> classes.put(name, isJava ? bytes.toByteArray() : null));
        return isJava ? classes : new HashMap<>();
    }

    private List<Break> breaks() {
        List<Break> breaks = new ArrayList<>();
        for (String[] sign : SIGNS) {
            for (int i = 1; i < sign.length; i++) {
                putOtherwise(breaks, "(?<= )" + Pattern.quote(sign[0]) + "(?= )", sign[i]);
            }
        }
        putOtherwise(breaks, "\\btrue\\b", "false");
        putOtherwise(breaks, "\\bfalse\\b", "true");
        putOtherwise(breaks, "\\bNONE\\b(?! = )", "NOT_SO");
        putOtherwise(breaks, "\\bNOT_SO\\b(?! = )", "NONE");
        putOtherwise(breaks, "(?<=Math\\.)min", "max");
        putOtherwise(breaks, "(?<=Math\\.)max", "min");
        putOtherwise(breaks, "\\+\\+", "--");
        putOtherwise(breaks, "--", "++");
        putOtherwise(breaks, "\\bbreak;", ";");
        putOtherwise(breaks, "(?m)(?<=^ {1,40})(?!return|throw|break|final|private|public|int |long |boolean )[A-Za-z][^\n;{}]*;$", ";");
        String[] values = {"0", "true", "false"};
        for (String value : values) {
            putOtherwise(breaks, "(?<=return )[^\n;{}]+(?=;)", value);
        }
        String[] truths = {"true", "false"};
        for (String truth : truths) {
            putOtherwise(breaks, "!?(?:[a-zA-Z.\\[\\]]+\\.)?\\b(?:is|are|misses|same|fit)[A-Za-z]*\\((?:[^()]|\\([^()]*\\))*\\)(?! \\{)", truth);
            putOtherwise(breaks, "(?<=\\(|&& |\\|\\| |return |= )[\\w.\\[\\]]+ (?:==|!=|<|>|<=|>=) [\\w.\\[\\]]+(?=\\)| &&| \\|\\||;| \\?)", truth);
        }
        Matcher number = Pattern.compile("(?<![\\w.])([0-9]+)(L?)(?!\\w)").matcher(code);
        while (number.find()) {
            long value = Long.parseLong(number.group(1));
            breaks.add(new Break(number.start(), number.end(), value + 1 + number.group(2)));
            breaks.add(new Break(number.start(), number.end(), value - 1 + number.group(2)));
        }
        Matcher condition = Pattern.compile("\\b(?:if|while) \\(").matcher(code);
        while (condition.find()) {
            int until = closing(code, condition.end());
            breaks.add(new Break(condition.end(), until, "!(" + source.substring(condition.end(), until) + ")"));
        }
        return breaks;
    }

    private void putOtherwise(List<Break> breaks, String what, String otherwise) {
        Matcher m = Pattern.compile(what).matcher(code);
        while (m.find()) {
            if (!m.group().equals(otherwise)) {
                breaks.add(new Break(m.start(), m.end(), otherwise));
            }
        }
    }
}
