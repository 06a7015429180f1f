/** Promises 24, 27 to 30, 32, 33: far, winding, laughBack, rests, rest, stay, line. */
final class KinTest {
    private static final String SIX = "box a 1 1 1 1 1 1 1 1 1 1;box b 1 2 1 1 1 1 1 1 1 1;box c 1 3 1 1 1 1 1 1 1 1;"
        + "box d 1 4 1 1 1 1 1 1 1 1;box e 1 5 1 1 1 1 1 1 1 1;box f 1 9 1 1 1 1 1 1 1 1;";

    public static void main(String[] args) {
        far();
        laughBack();
        stay();
        line();
        rests();
        winding();
        Check.end();
    }

    private static void far() {
        LaughDrum x = Check.told(SIX + "kin a b;kin b c;kin c d;kin d e;kin e a;");
        int[] due = {0, 1, 2, 2, 1, -2};
        for (int i = 0; i < 6; i++) {
            Check.due("far(0, " + i + ")", x.far(0, i), due[i]);
            Check.due("far(" + i + ", 0)", x.far(i, 0), due[i]);
        }
        Check.due("far(5, 5)", x.far(5, 5), 0);
        Check.due("far(0, 6)", x.far(0, 6), -1);
        Check.due("far(-1, 0)", x.far(-1, 0), -1);
        Check.due("five", Check.told(SIX + "kin a b;kin b c;kin c d;kin d e;kin e f;").far(5, 0), 5);
    }

    private static void laughBack() {
        LaughDrum x = Check.told(SIX + "kin a b;kin b c;kin e d;guest g 16 0;guest h 16 1;guest i 24 2;guest j 23 9;guest k 7 9;");
        Check.due("box 0", x.laughBack(0), 15);
        Check.due("box 1", x.laughBack(1), 14);
        Check.due("box 2", x.laughBack(2), 4);
        Check.due("no kin", x.laughBack(3), 0);
        Check.due("box 6", x.laughBack(6), -1);
        Check.due("box -1", x.laughBack(-1), -1);
    }

    private static void stay() {
        LaughDrum x = Check.told(SIX + "guest g 0 0;guest h 24 0;guest i 23 0;guest j 99 0;");
        Check.due("none", x.stay(0), 15);
        Check.due("a", x.stay(1), 14);
        Check.due("a, b", x.stay(3), 10);
        Check.due("c", x.stay(4), 10);
        Check.due("all", x.stay(63), 0);
        Check.due("64", x.stay(64), -1);
        Check.due("-1", x.stay(-1), -1);
        Check.due("nobody there", Check.told(SIX).stay(0), 0);
    }

    private static void row(String text, int... row) {
        LaughDrum x = Check.told(text);
        Check.due("line(0) of " + text, x.line(0), row.length);
        for (int i = 1; i <= 6; i++) {
            Check.due("line(" + i + ") of " + text, x.line(i), i <= row.length ? row[i - 1] : -2);
        }
        Check.due("line(7)", x.line(7), -1);
        Check.due("line(-1)", x.line(-1), -1);
    }

    private static void line() {
        row("");
        row(SIX, 0);
        row(SIX + "kin f e;", 4, 5);
        row(SIX + "kin a b;kin a c;kin a d;", 1, 0, 2);
        row(SIX + "kin b c;kin c d;kin d b;kin e f;", 1, 2, 3);
        row(SIX + "kin a b;kin b c;kin c d;kin d e;kin e f;", 0, 1, 2, 3, 4, 5);
        row(SIX + "kin a f;kin f b;kin b e;kin e c;kin c d;kin d a;", 0, 3, 2, 4, 1, 5);
        row(SIX + "kin a b;kin b c;kin c a;kin c d;kin d e;kin d f;", 0, 1, 2, 3, 4);
    }

    private static void rest(int laughter, int... due) {
        LaughDrum x = Check.told("box a 9 1 1 1 1 1 1 1 1 1;law charm " + laughter + ";");
        Check.due("rests of " + laughter, x.rests(0), due.length);
        for (int k = 0; k < due.length; k++) {
            Check.due("rest of " + laughter, x.rest(0, k), due[k]);
        }
        Check.due("no more of " + laughter, x.rest(0, due.length), -2);
    }

    private static void rests() {
        rest(0, 0);
        rest(1, 0, 1, 10);
        rest(3, 12, 21, 23, 32);
        rest(4, 23, 32, 34, 43);
        rest(6, 34, 43);
        rest(7, 34, 43);
        rest(8, 34, 43, 44);
        rest(99, 44);
        LaughDrum x = Check.told("box a 9 1 1 1 1 1 1 1 1 1;law charm 99;");
        Check.due("rest(0, -1)", x.rest(0, -1), -1);
        Check.due("rest(1, 0)", x.rest(1, 0), -1);
        Check.due("rests(1)", x.rests(1), -1);
        Check.due("rests(-1)", x.rests(-1), -1);
        x.steal(0, true);
        Check.due("stolen: no laughter", x.rest(0, 0), 0);
        Check.due("stolen: one rest", x.rests(0), 1);
        Check.due("most k", x.rest(0, Integer.MAX_VALUE), -2);
    }

    private static void wound(LaughDrum x, int n, int turns, int... due) {
        for (int what = 0; what < due.length; what++) {
            Check.due("winding(" + n + ", " + turns + ", " + what + ")", x.winding(n, turns, what), due[what]);
        }
    }

    private static void winding() {
        String four = "box a 1 1 1 1 1 1 0 0 0 0;box b 2 1 1 1 1 1 1 0 0 0;box c 98 1 1 1 1 1 1 1 1 1;box d 2 1 1 1 0 0 0 0 0 0;";
        LaughDrum x = Check.told(four);
        // four years: a laughs 4 once, b 5 twice, c 8 four times, d 2 twice
        wound(x, 4, 0, 0, 0, 0, 50);
        wound(x, 4, 1, 0, 1, 0, 55);
        wound(x, 4, 3, 1, 2, 0, 64);
        wound(x, 4, 9, 3, 2, 0, 72);
        wound(x, 1, 9, 0, 0, 0, 19);
        x.steal(1, true);
        wound(x, 4, 2, 2, 0, 0, 48);
        int[][] none = {{0, 1, 0}, {21, 1, 0}, {1, -1, 0}, {1, 10, 0}, {1, 1, 4}, {1, 1, -1}};
        for (int[] n : none) {
            Check.due("winding of none", x.winding(n[0], n[1], n[2]), -1);
        }
        LaughDrum y = Check.told("box a 1 1 1 1 1 1 0 0 0 0;");
        wound(y, 20, 9, 9, -2, -2, 40);
        LaughDrum z = Check.told("box a 1 1 1 1 1 1 0 0 0 0;box b 1 1 1 1 1 1 0 0 0 0;law charm 60 - spring;law wear 9;");
        wound(z, 1, 9, 0, 0, -2, 118);
        LaughDrum tie = Check.told("box a 1 1 1 1 1 1 0 0 0 0;box b 1 1 1 1 1 1 0 0 0 0;box c 1 1 1 1 1 1 0 0 0 0;");
        wound(tie, 3, 3, 0, 1, 2, 24);
        LaughDrum most = Check.told("box a 97 1 1 1 1 1 0 0 0 0;law charm spring;law wear 0;");
        wound(most, 1, 9, 2, -2, -2, 99);
    }
}
