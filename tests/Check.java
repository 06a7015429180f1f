/** What the tests share: feeding texts and counting answers that are not due. */
final class Check {
    static final int NONE = -1;
    private static int asked = 0;
    private static int wrong = 0;

    private Check() {
    }

    static void due(String call, long got, long want) {
        asked++;
        if (got != want) {
            wrong++;
            System.out.println(call + " answered " + got + ", due is " + want);
        }
    }

    static void due(String call, boolean got, boolean want) {
        due(call, got ? 1 : 0, want ? 1 : 0);
    }

    /** Feeds a text, with blanks behind it up to the next twenty bytes. */
    static void feed(LaughDrum drum, String text) {
        byte[] bytes = new byte[(text.length() + 19) / 20 * 20];
        for (int i = 0; i < bytes.length; i++) {
            bytes[i] = (byte) (i < text.length() ? text.charAt(i) : ' ');
        }
        feed(drum, bytes);
    }

    static void feed(LaughDrum drum, byte[] bytes) {
        for (int i = 0; i < bytes.length; i += 20) {
            drum.feed(four(bytes, i), four(bytes, i + 4), four(bytes, i + 8), four(bytes, i + 12), four(bytes, i + 16));
        }
    }

    static int text(LaughDrum drum, String text) {
        feed(drum, text);
        return drum.text(text.length());
    }

    /** A new object with that text, which must be free of faults. */
    static LaughDrum told(String text) {
        LaughDrum drum = new LaughDrum();
        int lines = 0;
        for (int i = 0; i < text.length(); i++) {
            lines += text.charAt(i) == ';' ? 1 : 0;
        }
        due("text of '" + text + "'", text(drum, text), lines);
        return drum;
    }

    /** The text must have that fault at that place. */
    static void faulty(String text, int fault, int place) {
        LaughDrum drum = new LaughDrum();
        due("text of '" + text + "'", text(drum, text), NONE);
        due("fault(0) of '" + text + "'", drum.fault(0), fault);
        due("fault(1) of '" + text + "'", drum.fault(1), place);
    }

    static int letters(String word) {
        int bits = 0;
        for (int i = 0; i < 6; i++) {
            bits = bits << 5 | (i < word.length() ? word.charAt(i) - 96 : 0);
        }
        return bits;
    }

    static void end() {
        System.out.println(asked + " answers asked, " + wrong + " not as due");
        if (wrong != 0 || asked == 0) {
            System.exit(1);
        }
    }

    private static int four(byte[] bytes, int at) {
        return (bytes[at] & 255) << 24 | (bytes[at + 1] & 255) << 16 | (bytes[at + 2] & 255) << 8 | bytes[at + 3] & 255;
    }
}
