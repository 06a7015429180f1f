import java.util.NoSuchElementException;

/** Promises 5 to 11: named, box, pin, heard, guest, kin, law. */
final class ToldTest {
    private static final String TEXT = "box a 5 2 1 2 3 4 0 5 6 9;box abcdef 0 9 9 9 9 9 9 9 9 9;box c 99 1 0 0 0 0 0 0 0 0;"
        + "tooth a 2;tooth a 9;kin c a;guest a 16 0;guest zz 99 9;damp 100;";

    public static void main(String[] args) {
        named();
        box();
        pinsAndHeard();
        guestsAndKin();
        lawValues();
        lawErrors();
        lawNames();
        Check.end();
    }

    private static void named() {
        LaughDrum x = Check.told(TEXT);
        Check.due("named a", x.named(0, 1 << 25), 0);
        Check.due("named abcdef", x.named(0, Check.letters("abcdef")), 1);
        Check.due("named c", x.named(0, Check.letters("c")), 2);
        Check.due("named abcde", x.named(0, Check.letters("abcde")), -1);
        Check.due("named c lowest", x.named(0, 3), -1);
        Check.due("named 0", x.named(0, 0), -1);
        Check.due("named -1", x.named(0, -1), -1);
        Check.due("named with higher bits", x.named(0, 1 << 25 | 1 << 30), -1);
        Check.due("guest a", x.named(1, Check.letters("a")), 0);
        Check.due("guest zz", x.named(1, Check.letters("zz")), 1);
        Check.due("guest c", x.named(1, Check.letters("c")), -1);
        Check.due("what 2", x.named(2, 1 << 25), -1);
        Check.due("what -1", x.named(-1, 1 << 25), -1);
    }

    /** 1: IndexOutOfBoundsException, 2: NoSuchElementException, 0: none. */
    private static int thrown(LaughDrum x, int box, int what) {
        try {
            x.box(box, what);
            return 0;
        } catch (IndexOutOfBoundsException e) {
            return 1;
        } catch (NoSuchElementException e) {
            return 2;
        }
    }

    private static void box() {
        LaughDrum x = Check.told(TEXT);
        int[] at0 = {5, 2, 0, 0, 0, 0, 1 << 2 | 1 << 9};
        for (int what = 0; what < 7; what++) {
            Check.due("box(0, " + what + ")", x.box(0, what), at0[what]);
        }
        x.years(2);
        x.steal(0, true);
        int[] then = {3, 2, 2, 2, 10, 1, 1 << 2 | 1 << 9};
        for (int what = 0; what < 7; what++) {
            Check.due("box(0, " + what + ") then", x.box(0, what), then[what]);
        }
        Check.due("box(2, 0)", x.box(2, 0), 97);
        int[] noBox = {-1, 3, 6, Integer.MIN_VALUE, Integer.MAX_VALUE};
        for (int box : noBox) {
            Check.due("box(" + box + ", 0) throws", thrown(x, box, 0), 1);
            Check.due("box(" + box + ", 7) throws", thrown(x, box, 7), 1);
        }
        int[] noWhat = {-1, 7, Integer.MIN_VALUE, Integer.MAX_VALUE};
        for (int what : noWhat) {
            Check.due("box(0, " + what + ") throws", thrown(x, 0, what), 2);
        }
    }

    private static void pinsAndHeard() {
        LaughDrum x = Check.told(TEXT);
        int[] pins = {1, 2, 3, 4, 0, 5, 6, 9};
        int[] heard = {1, 0, 3, 4, 0, 5, 6, 0};
        for (int k = 0; k < 8; k++) {
            Check.due("pin(0, " + k + ")", x.pin(0, k), pins[k]);
            Check.due("heard(0, " + k + ")", x.heard(0, k), heard[k]);
        }
        x.years(4);
        Check.due("heard of false 4", x.heard(0, 0), 1);
        x.years(1);
        Check.due("heard of false 5", x.heard(0, 0), 2);
        Check.due("heard at most 9", x.heard(1, 0), 9);
        Check.due("pin 0 when false", x.heard(0, 4), 0);
        x.years(10);
        Check.due("heard of false 15", x.heard(0, 6), 9);
        Check.due("missing when false", x.heard(0, 1), 0);
        Check.due("pin as told", x.pin(0, 0), 1);
        int[][] none = {{-1, 0}, {3, 0}, {0, -1}, {0, 8}, {Integer.MAX_VALUE, 0}, {0, Integer.MIN_VALUE}};
        for (int[] n : none) {
            Check.due("pin of none", x.pin(n[0], n[1]), -1);
            Check.due("heard of none", x.heard(n[0], n[1]), -1);
        }
    }

    private static void guestsAndKin() {
        LaughDrum x = Check.told(TEXT);
        Check.due("guest(0, 0)", x.guest(0, 0), 16);
        Check.due("guest(0, 1)", x.guest(0, 1), 0);
        Check.due("guest(1, 0)", x.guest(1, 0), 99);
        Check.due("guest(1, 1)", x.guest(1, 1), 9);
        Check.due("guest(2, 0)", x.guest(2, 0), -1);
        Check.due("guest(-1, 0)", x.guest(-1, 0), -1);
        Check.due("guest(0, 2)", x.guest(0, 2), -1);
        Check.due("guest(0, -1)", x.guest(0, -1), -1);
        Check.due("kin(0, 2)", x.kin(0, 2), 1);
        Check.due("kin(2, 0)", x.kin(2, 0), 1);
        Check.due("kin(0, 1)", x.kin(0, 1), 0);
        Check.due("kin(0, 0)", x.kin(0, 0), 0);
        Check.due("kin(0, 3)", x.kin(0, 3), -1);
        Check.due("kin(-1, 0)", x.kin(-1, 0), -1);
    }

    private static void worth(String e, long value) {
        LaughDrum x = Check.told("box a 5 2 1 2 3 4 0 5 6 9;law wear " + e + ";");
        Check.due("law of " + e, x.law(0, 0), value);
    }

    private static void lawValues() {
        worth("1 + 2 * 3", 7);
        worth("(1 + 2) * 3", 9);
        worth("7 - 3 - 2", 2);
        worth("7 - (3 - 2)", 6);
        worth("100 / 10 / 5", 2);
        worth("7 / 2 * 2", 6);
        worth("(0 - 7) / 2", -3);
        worth("7 / (0 - 2)", -3);
        worth("2 < 3", 1);
        worth("3 < 3", 0);
        worth("3 <= 3", 1);
        worth("4 <= 3", 0);
        worth("3 = 3", 1);
        worth("3 = 4", 0);
        worth("3 <> 3", 0);
        worth("3 <> 4", 1);
        worth("3 >= 4", 0);
        worth("4 >= 4", 1);
        worth("4 > 4", 0);
        worth("5 > 4", 1);
        worth("1 + 1 = 2", 1);
        worth("1 < 2 + 3", 1);
        worth("5 > 2 - 9", 1);
        worth("0 = 1 * 2", 0);
        worth("9 - 2 + 3", 10);
        worth("9 + 2 - 3 * 2 / 4", 10);
        worth("2 > 1 and 1", 1);
        worth("1 and 2 > 3", 0);
        worth("not 1 or 1", 1);
        worth("not 5", 0);
        worth("not 0", 1);
        worth("not not 5", 1);
        worth("not 1 = 2", 1);
        worth("not 0 and 0", 0);
        worth("not (0 and 0)", 1);
        worth("3 and 4", 1);
        worth("3 and 0", 0);
        worth("0 or 7", 1);
        worth("0 or 0", 0);
        worth("1 or 1 and 0", 1);
        worth("(1 or 1) and 0", 0);
        worth("1 < 2 and 3 > 2 or 0", 1);
        worth("(1<2)=(3<4)", 1);
        worth("(2 < 1) + 5", 5);
        worth("9999 * 9999", 99980001);
    }

    private static void lawErrors() {
        long error = Long.MIN_VALUE;
        worth("1 / 0", error);
        worth("0 / (3 - 3)", error);
        worth("0 and 1 / 0", error);
        worth("1 or 1 / 0", error);
        worth("not (1 / 0)", error);
        worth("1000 * 1000 * 1000 * 1000", 1000000000000L);
        worth("1000 * 1000 * 1000 * 1000 + 1", error);
        worth("0 - 1000 * 1000 * 1000 * 1000", -1000000000000L);
        worth("0 - 1000 * 1000 * 1000 * 1000 - 1", error);
        worth("(0 - 1000) * 1000 * 1000 * 1001", error);
        worth("9999 * 9999 * 9999 * 9999 * 9999 * 9999", error);
        worth("(1000 * 1000 * 1000 * 1000) * (1000 * 1000 * 1000 * 1000)", error);
        worth("(1000 * 1000 * 1000 * 1000) * 0", 0);
        worth("9999 * 9999 * 9999 * 9999 * 0", error);
        worth("4096*4096*4096*(4096*4096*16)", error);
        LaughDrum x = Check.told("box a 5 2 1 2 3 4 0 5 6 9;law sour 4;");
        Check.due("law(0, 0)", x.law(0, 0), error);
        Check.due("law(1, 0)", x.law(1, 0), 4);
        Check.due("law(2, 0)", x.law(2, 0), error);
        Check.due("law(3, 0)", x.law(3, 0), error);
        Check.due("law(-1, 0)", x.law(-1, 0), error);
        Check.due("law(1, 1)", x.law(1, 1), error);
        Check.due("law(1, -1)", x.law(1, -1), error);
    }

    private static void lawNames() {
        String box = "box a 50 3 1 2 0 4 0 5 6 9;tooth a 7;tooth a 2;damp 100;";
        String[] names = {"spring", "slow", "pins", "false", "teeth", "plays", "year"};
        int[] values = {48, 3, 6, 2, 2, 2, 2};
        for (int i = 0; i < names.length; i++) {
            LaughDrum x = Check.told(box + "law charm " + names[i] + ";");
            x.years(2);
            Check.due("law of " + names[i], x.law(2, 0), values[i]);
        }
    }
}
