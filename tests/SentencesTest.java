import java.nio.file.Files;
import java.nio.file.Path;
import java.util.LinkedHashMap;
import java.util.Map;

/**
 * All promises: each sentence of the document by a test of its own, on the last case inside its bound and the first
 * beyond. In the end the document itself is read: every quote must stand under its heading, and every word of the
 * terms and promises must be quoted.
 */
final class SentencesTest {
    private static final Path DOCUMENT = Path.of("../shared/DOC.md");

    private SentencesTest() {
    }

    public static void main(String[] args) throws Exception {
        ask();
        Check.saysNoMore();
        quotes(headings(Files.readString(DOCUMENT)));
        Check.end();
    }

    private static void ask() {
        SaysText.all();
        SaysFaults.all();
        SaysTold.all();
        SaysYears.all();
        SaysAlike.all();
        SaysKin.all();
        SaysFound.all();
        SaysUndo.all();
    }

    /** For Mutants: a line for each sentence, with a ! ahead if its test noticed something. */
    static String unlike() {
        ask();
        StringBuilder lines = new StringBuilder();
        for (Check.Sentence sentence : Check.sentences()) {
            lines.append(sentence.wrong > 0 ? '!' : ' ').append(sentence.where).append(", ").append(sentence.words).append('\n');
        }
        return lines.toString();
    }

    /** What stands under each heading, its words with one blank between, without signatures and fences. */
    private static Map<String, String> headings(String document) {
        Map<String, String> headings = new LinkedHashMap<>();
        for (String part : document.split("\n## ")) {
            int end = part.indexOf('\n') < 0 ? part.length() : part.indexOf('\n');
            String name = part.substring(0, end).replaceFirst("^(Promise \\d+):.*", "$1");
            String words = part.substring(end).replaceAll("```(java|text)?", " ").replaceFirst("^\\s*`[^`]*`:", "");
            headings.put(name, words.replaceAll("\\s+", " ").trim());
        }
        return headings;
    }

    private static void quotes(Map<String, String> headings) {
        Map<String, StringBuilder> left = new LinkedHashMap<>();
        headings.forEach((name, words) -> left.put(name, new StringBuilder(words)));
        for (Check.Sentence sentence : Check.sentences()) {
            String quote = sentence.where + ", \"" + sentence.words + "\" ";
            String heading = sentence.where.replaceFirst(" for promise \\d+$", "");
            StringBuilder rest = left.get(heading);
            int at = rest == null ? -1 : headings.get(heading).indexOf(sentence.words);
            Check.due(quote + "stands in the document", at >= 0, true);
            Check.due(quote + "is tested inside and beyond", sentence.asked >= 2, true);
            for (int i = at; at >= 0 && i < at + sentence.words.length(); i++) {
                rest.setCharAt(i, ' ');
            }
        }
        left.forEach((name, rest) -> {
            if (name.equals("Terms") || name.startsWith("Promise ")) {
                String words = rest.toString().replaceAll("==== \\d\\.", "").replaceAll("\\s+", " ").trim();
                Check.due(name + ": no test quotes '" + words + "'", words.isEmpty(), true);
            }
        });
        Check.due("the terms and 47 promises", left.keySet().stream().filter(n -> n.startsWith("Promise ")).count(), 47);
    }
}
