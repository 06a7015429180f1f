import java.util.ArrayList;
import java.util.List;
import java.util.NoSuchElementException;
import java.util.function.IntToLongFunction;

/** What the tests share: sentences of the document, feeding texts, counting answers that are not due. */
class Check {
    static final int NONE = -1;
    private static final List<Sentence> SENTENCES = new ArrayList<>();
    private static Sentence now = null;
    private static int asked = 0;
    private static int wrong = 0;

    /** A sentence that a test quotes, and how many answers the test asks for it. */
    static final class Sentence {
        final String where;
        final String words;
        int asked;
        int wrong;

        Sentence(String where, String words) {
            this.where = where;
            this.words = words;
        }
    }

    Check() {
    }

    /** From here on it is a sentence of that heading of the document that is tested. */
    static void says(String where, String words) {
        now = new Sentence(where, words);
        SENTENCES.add(now);
    }

    static void saysNoMore() {
        now = null;
    }

    /** One test; what it throws is an answer that isn't due, and the next test goes on. */
    static void test(Runnable test) {
        try {
            test.run();
        } catch (RuntimeException e) {
            e.printStackTrace(System.out);
            due("a call that threw " + e, 1, 0);
        }
    }

    static List<Sentence> sentences() {
        return SENTENCES;
    }

    static void due(String call, long got, long want) {
        asked++;
        if (now != null) {
            now.asked++;
        }
        if (got != want) {
            wrong++;
            if (now != null) {
                now.wrong++;
            }
            String about = now == null ? "" : now.where + ", \"" + now.words + "\": ";
            System.out.println(about + call + " answered " + got + ", due is " + want);
        }
    }

    static void due(String call, boolean got, boolean want) {
        due(call, got ? 1 : 0, want ? 1 : 0);
    }

    /** The last numbers inside are such ones, the first beyond and the farthest are none. */
    static void within(String call, IntToLongFunction ask, int least, int most, long none) {
        due(call + " of the least, " + least, ask.applyAsLong(least) != none, true);
        due(call + " of the most, " + most, ask.applyAsLong(most) != none, true);
        due(call + " below the least, " + (least - 1), ask.applyAsLong(least - 1), none);
        due(call + " above the most, " + (most + 1), ask.applyAsLong(most + 1), none);
        due(call + " of the least int", ask.applyAsLong(Integer.MIN_VALUE), none);
        due(call + " of the most int", ask.applyAsLong(Integer.MAX_VALUE), none);
    }

    /** Feeds a text, with blanks behind it up to the next twenty bytes. */
    static void feed(LaughDrum drum, String text) {
        byte[] bytes = new byte[(text.length() + 19) / 20 * 20];
        for (int i = 0; i < bytes.length; i++) {
            bytes[i] = (byte) (i < text.length() ? text.charAt(i) : ' ');
        }
        feed(drum, bytes);
    }

    static void feed(LaughDrum drum, byte[] bytes) {
        for (int i = 0; i < bytes.length; i += 20) {
            drum.feed(four(bytes, i), four(bytes, i + 4), four(bytes, i + 8), four(bytes, i + 12), four(bytes, i + 16));
        }
    }

    static int text(LaughDrum drum, String text) {
        feed(drum, text);
        return drum.text(text.length());
    }

    /** A new object with that text, which must be free of faults. */
    static LaughDrum told(String text) {
        LaughDrum drum = new LaughDrum();
        int lines = 0;
        for (int i = 0; i < text.length(); i++) {
            lines += text.charAt(i) == ';' ? 1 : 0;
        }
        due("text of '" + text + "'", text(drum, text), lines);
        return drum;
    }

    /** The text must have that fault at that place. */
    static void faulty(String text, int fault, int place) {
        LaughDrum drum = new LaughDrum();
        due("text of '" + text + "'", text(drum, text), NONE);
        due("fault(0) of '" + text + "'", drum.fault(0), fault);
        due("fault(1) of '" + text + "'", drum.fault(1), place);
    }

    /** The text without its mark ^ must have that fault where the mark was. */
    static void marked(String text, int fault) {
        int place = text.indexOf('^');
        faulty(text.substring(0, place) + text.substring(place + 1), fault, place);
    }

    /** Boxes a, b, .. of spring 1 and slow 1 with these pins. */
    static String drums(String... pins) {
        StringBuilder text = new StringBuilder();
        for (int i = 0; i < pins.length; i++) {
            text.append("box ").append((char) ('a' + i)).append(" 1 1 ").append(String.join(" ", pins[i].split(""))).append(';');
        }
        return text.toString();
    }

    static int letters(String word) {
        int bits = 0;
        for (int i = 0; i < 6; i++) {
            bits = bits << 5 | (i < word.length() ? word.charAt(i) - 96 : 0);
        }
        return bits;
    }

    /** What box throws. 1: IndexOutOfBoundsException itself, 2: NoSuchElementException itself, 3: one below, 0: nothing. */
    static int thrown(LaughDrum drum, int box, int what) {
        try {
            drum.box(box, what);
            return 0;
        } catch (IndexOutOfBoundsException e) {
            return e.getClass() == IndexOutOfBoundsException.class ? 1 : 3;
        } catch (NoSuchElementException e) {
            return e.getClass() == NoSuchElementException.class ? 2 : 3;
        }
    }

    static void end() {
        System.out.println(asked + " answers asked, " + wrong + " not as due");
        if (wrong != 0 || asked == 0) {
            System.exit(1);
        }
    }

    private static int four(byte[] bytes, int at) {
        return (bytes[at] & 255) << 24 | (bytes[at + 1] & 255) << 16 | (bytes[at + 2] & 255) << 8 | bytes[at + 3] & 255;
    }
}
