/** What the document says of what is heard, of names and values, and promises 5 to 11. */
final class SaysTold extends Check {
    private static final String BOX_A = SaysText.BOX_A;
    private static final String SIX = SaysText.SIX;
    private static final long ERROR = Long.MIN_VALUE;
    private static final String TRILLION = "1000*1000*1000*1000";

    static void all() {
        test(SaysTold::silence);
        test(SaysTold::heardByFalse);
        test(SaysTold::springAndSlow);
        test(SaysTold::pinsAsTold);
        test(SaysTold::falseAndTeeth);
        test(SaysTold::plays);
        test(SaysTold::year);
        test(SaysTold::longs);
        test(SaysTold::truths);
        test(SaysTold::division);
        test(SaysTold::byZero);
        test(SaysTold::valuesTooLarge);
        test(SaysTold::named);
        test(SaysTold::namedNone);
        test(SaysTold::box);
        test(SaysTold::noSuchBox);
        test(SaysTold::noSuchWhat);
        test(SaysTold::pin);
        test(SaysTold::heard);
        test(SaysTold::guest);
        test(SaysTold::kin);
        test(SaysTold::law);
        test(SaysTold::noLaw);
    }

    private static void silence() {
        says("Terms for promise 8", "HEARD of a PIN: 0, if it is 0 or its TOOTH is MISSING;");
        LaughDrum x = told("box a 9 1 0 1 2 3 7 8 9 0;tooth a 1;tooth a 9;damp 100;");
        int[] due = {0, 0, 2, 3, 7, 8, 0, 0};
        for (int k = 0; k < 8; k++) {
            due("heard(0, " + k + ")", x.heard(0, k), due[k]);
        }
        x.years(5);
        int[] then = {0, 0, 3, 4, 8, 9, 0, 0};
        for (int k = 0; k < 8; k++) {
            due("heard(0, " + k + ") of false 5", x.heard(0, k), then[k]);
        }
        x.years(94);
        due("0 of false 99", x.heard(0, 0), 0);
        due("missing of false 99", x.heard(0, 1), 0);
        // by false 5 a pin 2 is heard as 3: its tooth is 2
        LaughDrum y = told("box a 9 1 2 3 2 3 2 3 2 3;tooth a 3;damp 100;");
        y.years(5);
        due("the tooth of what is heard is none of its own", y.heard(0, 0), 3);
        due("the tooth of the pin", y.heard(0, 1), 0);
        y.tooth(0, 3, false);
        due("the tooth is set", y.heard(0, 1), 4);
    }

    private static void heardByFalse() {
        says("Terms for promise 8", "else the PIN and FALSE by 5, cut, 9 at most.");
        int[] pins = {1, 2, 3, 4, 5, 6, 8, 9};
        for (int isFalse = 0; isFalse <= 99; isFalse++) {
            LaughDrum x = told("box a 9 1 1 2 3 4 5 6 8 9;damp 100;");
            x.years(isFalse);
            for (int k = 0; k < 8; k++) {
                due("pin " + pins[k] + " of false " + isFalse, x.heard(0, k), Math.min(9, pins[k] + isFalse / 5));
            }
        }
    }

    private static void springAndSlow() {
        says("Terms for promise 11", "NAMES, of the BOX: spring: SPRING; slow: SLOW;");
        LaughDrum x = told("box a 0 1 1 1 1 1 1 1 1 1;box b 99 9 1 1 1 1 1 1 1 1;law charm spring;law wear slow;");
        due("spring 0", x.law(2, 0), 0);
        due("spring 99", x.law(2, 1), 99);
        due("slow 1", x.law(0, 0), 1);
        due("slow 9", x.law(0, 1), 9);
        x.years(1);
        due("spring then", x.law(2, 1), 90);
        due("slow then", x.law(0, 1), 9);
        x.wind(0, 7);
        due("spring when wound", x.law(2, 0), 7);
    }

    private static void pinsAsTold() {
        says("Terms for promise 11", "pins: how many of its eight are above 0 as told;");
        for (int n = 0; n <= 8; n++) {
            due(n + " pins", told("box a 9 1" + " 1".repeat(n) + " 0".repeat(8 - n) + ";law charm pins;").law(2, 0), n);
            due(n + " pins behind", told("box a 9 1" + " 0".repeat(8 - n) + " 9".repeat(n) + ";law charm pins;").law(2, 0), n);
        }
        LaughDrum x = told("box a 9 1 1 2 3 4 0 5 6 7;tooth a 1;law charm pins;");
        due("a tooth is missing", x.law(2, 0), 7);
        x.tooth(0, 2, true);
        due("two teeth are missing", x.law(2, 0), 7);
    }

    private static void falseAndTeeth() {
        says("Terms for promise 11", "false: FALSE; teeth: how many of its TEETH are MISSING;");
        LaughDrum x = told("box a 9 1 1 1 1 1 1 1 1 1;box b 9 1 1 1 1 1 1 1 1 1;tooth b 1;damp 100;law sour 9;law charm false;law wear teeth;");
        due("false 0", x.law(2, 0), 0);
        x.years(1);
        due("false 9", x.law(2, 0), 9);
        x.years(99);
        due("false 99", x.law(2, 0), 99);
        due("teeth of b", x.law(0, 1), 1);
        for (int tooth = 1; tooth <= 9; tooth++) {
            due("teeth " + (tooth - 1), x.law(0, 0), tooth - 1);
            x.tooth(0, tooth, true);
        }
        due("teeth 9", x.law(0, 0), 9);
        x.tooth(0, 9, false);
        due("one is set", x.law(0, 0), 8);
    }

    private static void plays() {
        says("Terms for promise 11", "plays: how often PLAYED (of charm, wear this one too);");
        LaughDrum x = told("box a 99 1 1 1 1 1 1 1 1 1;damp 100;law charm plays;law wear plays;law sour plays;");
        due("charm asked ahead", x.law(2, 0), 0);
        due("wear asked ahead", x.law(0, 0), 0);
        x.years(1);
        due("charm of the first play", x.box(0, 4), 1);
        due("wear of the first play", x.box(0, 0), 98);
        due("sour behind the first play", x.box(0, 2), 1);
        x.years(1);
        due("charm of the second play", x.box(0, 4), 1 + 2);
        due("wear of the second play", x.box(0, 0), 98 - 2);
        due("sour behind the second play", x.box(0, 2), 1 + 2);
        x.steal(0, true);
        x.years(1);
        due("not let go: charm", x.box(0, 4), 3);
        due("not let go: sour by two plays", x.box(0, 2), 3 + 2);
    }

    private static void year() {
        says("Terms for promise 11", "year: the YEAR.");
        LaughDrum x = told("box a 99 1 1 1 1 1 1 1 1 1;damp 100;law charm year;law wear year;law sour year;");
        due("year 0", x.law(2, 0), 0);
        x.years(1);
        due("laughter by year 0", x.box(0, 4), 0);
        due("wear by year 0", x.box(0, 0), 99);
        due("sour by year 0", x.box(0, 2), 0);
        x.years(1);
        due("laughter by year 1", x.box(0, 4), 1);
        due("wear by year 1", x.box(0, 0), 98);
        due("sour by year 1", x.box(0, 2), 1);
        for (int i = 0; i < 99; i++) {
            x.years(99);
        }
        x.years(97);
        due("year 9900", x.law(2, 0), 9900);
    }

    private static void longs() {
        says("Terms for promise 11", "VALUES are longs;");
        SaysText.worth("9999 * 9999 * 21", 2099580021L);
        SaysText.worth("9999 * 9999 * 22", 2199560022L);
        SaysText.worth("9999 * 9999 * 43", 4299140043L);
        SaysText.worth("0 - 9999 * 9999 * 43", -4299140043L);
        SaysText.worth(TRILLION + " / 1000", 1000000000L);
        SaysText.worth("9999 * 9999 * 9999 > 9999", 1);
        SaysText.worth("256 * 256 * 256 * 256 and 1", 1);
        SaysText.worth("256 * 256 * 256 * 256 = 0", 0);
        SaysText.worth("not 256 * 256 * 256 * 256", 0);
    }

    private static void truths() {
        says("Terms for promise 11", "comparisons, and, or, not are 1 or 0 (what isn't 0 is as 1, both sides are worked out),");
        String[] isSo = {"1 < 2", "2 <= 2", "2 = 2", "1 <> 2", "2 >= 2", "3 > 2", "2 and 4", "2 or 4", "4 or 0", "0 or 4",
            "(0 - 1) and 4", "0 or (0 - 4)", "not 0", "not not 7", "not not (0 - 7)"};
        String[] isNot = {"2 < 2", "3 <= 2", "1 = 2", "2 <> 2", "1 >= 2", "2 > 2", "0 and 4", "4 and 0", "0 and 0", "0 or 0",
            "not 1", "not 7", "not (0 - 1)"};
        for (String e : isSo) {
            SaysText.worth(e, 1);
            SaysText.worth("(" + e + ") * 5 + 2", 7);
        }
        for (String e : isNot) {
            SaysText.worth(e, 0);
            SaysText.worth("(" + e + ") * 5 + 2", 2);
        }
        String[] error = {"0 and 1 / 0", "1 / 0 and 0", "1 or 1 / 0", "1 / 0 or 1", "not (1 / 0)", "1 / 0 < 1", "1 = 1 / 0",
            "0 * (1 / 0)", "0 and " + TRILLION + " * 2"};
        for (String e : error) {
            SaysText.worth(e, ERROR);
        }
    }

    private static void division() {
        says("Terms for promise 11", "/ is cut towards 0;");
        SaysText.worth("7 / 2", 3);
        SaysText.worth("8 / 2", 4);
        SaysText.worth("1 / 2", 0);
        SaysText.worth("(0 - 7) / 2", -3);
        SaysText.worth("7 / (0 - 2)", -3);
        SaysText.worth("(0 - 7) / (0 - 2)", 3);
        SaysText.worth("(0 - 1) / 2", 0);
        SaysText.worth("(0 - 8) / 2", -4);
        SaysText.worth("9999 / 9999", 1);
        SaysText.worth("9998 / 9999", 0);
    }

    private static void byZero() {
        says("Terms for promise 11", "ERROR: / by 0,");
        SaysText.worth("1 / 0", ERROR);
        SaysText.worth("0 / 0", ERROR);
        SaysText.worth("0 / 1", 0);
        SaysText.worth("1 / (3 - 3)", ERROR);
        SaysText.worth("1 / (3 - 2)", 1);
        SaysText.worth("1 / (2 - 3)", -1);
        SaysText.worth("1 + 1 / 0 * 0", ERROR);
        LaughDrum x = told("box a 2 1 1 1 1 1 1 1 1 1;law charm 7 / (spring - 1);");
        due("by spring 2", x.law(2, 0), 7);
        x.years(1);
        due("by spring 1", x.law(2, 0), ERROR);
        x.years(1);
        due("by spring 0", x.law(2, 0), -7);
    }

    private static void valuesTooLarge() {
        says("Terms for promise 11", "a value above 10 to the 12 or below 0 by more than that.");
        long trillion = 1000000000000L;
        SaysText.worth(TRILLION, trillion);
        SaysText.worth("0 - " + TRILLION, -trillion);
        SaysText.worth(TRILLION + " + 1", ERROR);
        SaysText.worth("1 + " + TRILLION, ERROR);
        SaysText.worth(TRILLION + " - (0 - 1)", ERROR);
        SaysText.worth("0 - " + TRILLION + " - 1", ERROR);
        SaysText.worth("0 - 1 - " + TRILLION, ERROR);
        SaysText.worth("0 - " + TRILLION + " + (0 - 1)", ERROR);
        SaysText.worth(TRILLION + " - 1 + 1", trillion);
        SaysText.worth(TRILLION + " + 1 - 1", ERROR);
        // 10001 * 99990001 is 10 to the 12 and 1, 1000001 * 999999 one less than that
        SaysText.worth("(9999 + 2) * (9999 * (9999 + 1) + 1)", ERROR);
        SaysText.worth("(0 - 9999 - 2) * (9999 * (9999 + 1) + 1)", ERROR);
        SaysText.worth("(9999 + 2) * (0 - 9999 * (9999 + 1) - 1)", ERROR);
        SaysText.worth("(1000 * 1000 + 1) * (1000 * 1000 - 1)", trillion - 1);
        SaysText.worth("(0 - 1000 * 1000) * (1000 * 1000)", -trillion);
        SaysText.worth("(0 - 1000 * 1000) * (0 - 1000 * 1000)", trillion);
        SaysText.worth("(0 - 1000 * 1000 - 1) * (0 - 1000 * 1000)", ERROR);
        SaysText.worth("9999 * 9999 * 9999 * 9999 * 9999 * 9999", ERROR);
        SaysText.worth("(" + TRILLION + ") * (" + TRILLION + ")", ERROR);
        SaysText.worth("(" + TRILLION + ") * 0", 0);
        SaysText.worth("0 * (" + TRILLION + ")", 0);
        SaysText.worth("(" + TRILLION + ") * 1", trillion);
        SaysText.worth("9999 * 9999 * 9999 * 9999 * 0", ERROR);
        // products that would come round to 0 in a long
        SaysText.worth("4096*4096*4096*(4096*4096*16)", ERROR);
        SaysText.worth("4096*4096*2048*(4096*4096*1024)", ERROR);
        SaysText.worth("4096*4096*4096*(0-4096*4096*16)", ERROR);
        SaysText.worth("(0-4096*4096*4096)*(4096*4096*16)", ERROR);
        SaysText.worth("(0-4096*4096*4096)*(0-4096*4096*16)", ERROR);
        SaysText.worth("(" + TRILLION + ") / (" + TRILLION + ")", 1);
    }

    private static void named() {
        says("Promise 5", "The number of a BOX (what 0), GUEST (1) by its letters, 5 bits each (a is 1; the first one highest of six, 0 behind the last one);");
        LaughDrum x = told("box a 1 1 1 1 1 1 1 1 1 1;box zzzzzz 1 1 1 1 1 1 1 1 1 1;box abcdef 1 1 1 1 1 1 1 1 1 1;guest zz 1 1;guest a 1 1;");
        due("a is 1, the highest", x.named(0, 1 << 25), 0);
        due("z is 26", x.named(0, 26 << 25 | 26 << 20 | 26 << 15 | 26 << 10 | 26 << 5 | 26), 1);
        due("abcdef", x.named(0, 1 << 25 | 2 << 20 | 3 << 15 | 4 << 10 | 5 << 5 | 6), 2);
        due("guest zz", x.named(1, 26 << 25 | 26 << 20), 0);
        due("guest a", x.named(1, 1 << 25), 1);
        due("a lowest", x.named(0, 1), NONE);
        due("a and a bit", x.named(0, 1 << 25 | 1), NONE);
        due("abcdef without its last", x.named(0, 1 << 25 | 2 << 20 | 3 << 15 | 4 << 10 | 5 << 5), NONE);
        due("zzzzzz and one", x.named(0, (26 << 25 | 26 << 20 | 26 << 15 | 26 << 10 | 26 << 5 | 26) + 1), NONE);
    }

    private static void namedNone() {
        says("Promise 5", "NONE: there is none such.");
        LaughDrum x = told(BOX_A + "guest g 1 1;");
        due("box a", x.named(0, letters("a")), 0);
        due("guest g", x.named(1, letters("g")), 0);
        due("box b", x.named(0, letters("b")), NONE);
        due("box g", x.named(0, letters("g")), NONE);
        due("guest a", x.named(1, letters("a")), NONE);
        due("no letters", x.named(0, 0), NONE);
        due("no letters of a guest", x.named(1, 0), NONE);
        due("-1", x.named(0, -1), NONE);
        due("a bit above thirty", x.named(0, letters("a") | 1 << 30), NONE);
        due("the highest bit", x.named(0, letters("a") | 1 << 31), NONE);
        due("what -1", x.named(-1, letters("a")), NONE);
        due("what 2", x.named(2, letters("g")), NONE);
        due("the most what", x.named(Integer.MAX_VALUE, letters("a")), NONE);
        text(x, "box b 1 1 1 1 1 1 1 1 1 1;");
        due("not told any more", x.named(0, letters("a")), NONE);
        due("no guest told any more", x.named(1, letters("g")), NONE);
    }

    private static void box() {
        says("Promise 6", "Of a BOX now, what 0 SPRING, 1 SLOW, 2 FALSE, 3 how often PLAYED, 4 LAUGHTER so far, 5 whether STOLEN (1, 0), 6 TEETH that are MISSING (bits 1 .. 9).");
        LaughDrum x = told("box a 5 2 1 2 3 4 0 5 6 9;box b 0 9 9 9 9 9 9 9 9 9;tooth a 1;tooth a 9;damp 100;");
        int[][] told = {{5, 2, 0, 0, 0, 0, 1 << 1 | 1 << 9}, {0, 9, 0, 0, 0, 0, 0}};
        for (int what = 0; what <= 6; what++) {
            due("box(0, " + what + ")", x.box(0, what), told[0][what]);
            due("box(1, " + what + ")", x.box(1, what), told[1][what]);
        }
        x.years(2);
        x.steal(0, true);
        for (int tooth = 1; tooth <= 9; tooth++) {
            x.tooth(1, tooth, true);
        }
        int[][] then = {{3, 2, 2, 2, 10, 1, 1 << 1 | 1 << 9}, {0, 9, 2, 0, 0, 0, 1022}};
        for (int what = 0; what <= 6; what++) {
            due("box(0, " + what + ") then", x.box(0, what), then[0][what]);
            due("box(1, " + what + ") then", x.box(1, what), then[1][what]);
        }
        x.steal(0, false);
        due("given back", x.box(0, 5), 0);
    }

    private static void noSuchBox() {
        says("Promise 6", "IndexOutOfBoundsException: no such BOX.");
        String[] texts = {"", BOX_A, SIX};
        for (String text : texts) {
            LaughDrum x = told(text);
            int count = x.count(0);
            for (int box = 0; box < count; box++) {
                due("box " + box + " of " + count, thrown(x, box, 0), 0);
            }
            int[] none = {-1, count, 6, 7, Integer.MIN_VALUE, Integer.MAX_VALUE};
            for (int box : none) {
                due("box " + box + " of " + count, thrown(x, box, 0), 1);
                due("box " + box + " of " + count + ", no such what", thrown(x, box, 7), 1);
            }
        }
        LaughDrum fewer = told(SIX);
        text(fewer, BOX_A);
        due("told in an earlier text alone", thrown(fewer, 1, 0), 1);
    }

    private static void noSuchWhat() {
        says("Promise 6", "NoSuchElementException: no such what.");
        LaughDrum x = told(BOX_A);
        for (int what = 0; what <= 6; what++) {
            due("what " + what, thrown(x, 0, what), 0);
        }
        int[] none = {-1, 7, Integer.MIN_VALUE, Integer.MAX_VALUE};
        for (int what : none) {
            due("what " + what, thrown(x, 0, what), 2);
        }
        due("all stays", x.box(0, 0), 1);
    }

    private static void pin() {
        says("Promise 7", "The PIN of a BOX at a place 0 .. 7; NONE: no such ones.");
        LaughDrum x = told("box a 5 2 1 2 3 4 0 5 6 9;box b 5 2 9 0 0 0 0 0 0 8;tooth a 1;damp 100;");
        x.years(5);
        int[] pins = {1, 2, 3, 4, 0, 5, 6, 9};
        for (int k = 0; k < 8; k++) {
            due("pin(0, " + k + ")", x.pin(0, k), pins[k]);
        }
        due("pin(1, 7)", x.pin(1, 7), 8);
        within("place", k -> x.pin(0, k), 0, 7, NONE);
        within("box", box -> x.pin(box, 0), 0, 1, NONE);
    }

    private static void heard() {
        says("Promise 8", "What is HEARD there now; NONE: no such ones.");
        LaughDrum x = told("box a 5 2 1 2 3 4 0 5 6 9;box b 5 2 9 0 0 0 0 0 0 8;tooth a 1;damp 100;");
        due("ahead", x.heard(0, 1), 2);
        x.years(5);
        int[] due = {0, 3, 4, 5, 0, 6, 7, 9};
        for (int k = 0; k < 8; k++) {
            due("heard(0, " + k + ")", x.heard(0, k), due[k]);
        }
        due("heard(1, 7)", x.heard(1, 7), 9);
        within("place", k -> x.heard(0, k), 0, 7, NONE);
        within("box", box -> x.heard(box, 0), 0, 1, NONE);
    }

    private static void guest() {
        says("Promise 9", "Of a GUEST, what 0 WAIT, 1 DEGREE. NONE: no such ones.");
        LaughDrum x = told("guest a 16 0;guest b 99 9;guest c 0 1;guest d 1 2;guest e 2 3;");
        due("guest(0, 0)", x.guest(0, 0), 16);
        due("guest(0, 1)", x.guest(0, 1), 0);
        due("guest(1, 0)", x.guest(1, 0), 99);
        due("guest(1, 1)", x.guest(1, 1), 9);
        due("guest(4, 1)", x.guest(4, 1), 3);
        within("guest", guest -> x.guest(guest, 1), 0, 4, NONE);
        within("what", what -> x.guest(1, what), 0, 1, NONE);
        text(x, "guest a 16 0;");
        within("guest of one", guest -> x.guest(guest, 0), 0, 0, NONE);
        due("none told", told(BOX_A).guest(0, 0), NONE);
    }

    private static void kin() {
        says("Promise 10", "Whether two BOXES are KIN (1, 0); NONE: no such ones.");
        LaughDrum x = told(SIX + "kin f a;kin a c;");
        int[] due = {0, 0, 1, 0, 0, 1};
        for (int box = 0; box < 6; box++) {
            due("kin(0, " + box + ")", x.kin(0, box), due[box]);
            due("kin(" + box + ", 0)", x.kin(box, 0), due[box]);
            due("kin of itself", x.kin(box, box), 0);
        }
        within("one", box -> x.kin(box, 0), 0, 5, NONE);
        within("other", box -> x.kin(0, box), 0, 5, NONE);
        due("none told", told("").kin(0, 0), NONE);
    }

    private static void law() {
        says("Promise 11", "A law's E now of a BOX (what 0 wear, 1 sour, 2 charm; plays as it is).");
        LaughDrum x = told("box a 9 1 1 1 1 1 1 1 1 1;box b 7 2 1 1 1 1 1 1 1 1;law charm plays + 100;law sour 0 - spring * 100;law wear plays * 10 + slow;");
        due("wear", x.law(0, 0), 1);
        due("sour, below its least", x.law(1, 0), -900);
        due("charm, above its most", x.law(2, 0), 100);
        x.years(1);
        due("wear then", x.law(0, 1), 12);
        due("sour then", x.law(1, 0), 0);
        due("charm then", x.law(2, 0), 101);
        x.steal(0, true);
        due("of a stolen one", x.law(2, 0), 101);
    }

    private static void noLaw() {
        says("Promise 11", "Long.MIN_VALUE: an ERROR, no such law, no such ones.");
        LaughDrum x = told(SIX + "law wear 1;law sour 2;law charm 3;");
        within("what", what -> x.law(what, 0), 0, 2, ERROR);
        within("box", box -> x.law(0, box), 0, 5, ERROR);
        for (int what = 0; what < 3; what++) {
            String law = what == 0 ? "wear" : what == 1 ? "sour" : "charm";
            LaughDrum one = told(BOX_A + "law " + law + " 1;");
            LaughDrum error = told(BOX_A + "law " + law + " 1 / 0;");
            for (int other = 0; other < 3; other++) {
                due("law " + other + " of " + law + " alone", one.law(other, 0), other == what ? 1 : ERROR);
                due("law " + other + " of an error", error.law(other, 0), ERROR);
            }
        }
        due("no box told", told("law wear 1;").law(0, 0), ERROR);
        text(x, BOX_A);
        due("not told any more", x.law(0, 0), ERROR);
    }
}
