/** Promises 17, 18, 20 to 23, 25, 34: alike, like, fill, join, duet, tree, forged, quote. */
final class HeardTest {
    public static void main(String[] args) {
        alikeAndLike();
        fill();
        join();
        joinByZero();
        duet();
        tree();
        forged();
        quote();
        Check.end();
    }

    private static void alikeAndLike() {
        LaughDrum x = Check.told("box a 1 1 1 2 3 4 5 6 7 8;box b 1 1 8 1 2 3 4 5 6 7;box c 1 1 0 0 0 0 0 0 0 0;"
            + "box d 1 1 1 2 1 2 1 2 1 2;");
        Check.due("alike(0, 1, 0)", x.alike(0, 1, 0), 0);
        Check.due("alike(0, 1, 1)", x.alike(0, 1, 1), 8);
        Check.due("alike(1, 0, 7)", x.alike(1, 0, 7), 8);
        Check.due("alike(1, 0, 1)", x.alike(1, 0, 1), 0);
        Check.due("alike(2, 2, 0)", x.alike(2, 2, 0), 0);
        Check.due("alike(0, 1, 8)", x.alike(0, 1, 8), -1);
        Check.due("alike(0, 1, -1)", x.alike(0, 1, -1), -1);
        Check.due("alike(4, 1, 0)", x.alike(4, 1, 0), -1);
        Check.due("alike(0, -1, 0)", x.alike(0, -1, 0), -1);
        Check.due("like(0, 1, 0)", x.like(0, 1, 0), 1);
        Check.due("like(0, 1, 1)", x.like(0, 1, 1), 8);
        Check.due("like(1, 0, 0)", x.like(1, 0, 0), 7);
        Check.due("like(3, 3, 0)", x.like(3, 3, 0), 0);
        Check.due("like(3, 3, 1)", x.like(3, 3, 1), 8);
        Check.due("like(2, 0, 0)", x.like(2, 0, 0), 0);
        Check.due("like(2, 0, 1)", x.like(2, 0, 1), 0);
        Check.due("like(0, 1, 2)", x.like(0, 1, 2), -1);
        Check.due("like(0, 4, 0)", x.like(0, 4, 0), -1);
        Check.due("like(4, 0, 0)", x.like(4, 0, 0), -1);
        x.tooth(0, 3, true);
        Check.due("alike without a tooth", x.alike(0, 1, 1), 7);
    }

    private static void fill() {
        LaughDrum x = Check.told("box a 1 1 1 2 2 2 5 6 7 8;box b 1 1 0 9 4 4 5 6 7 8;box c 1 1 1 9 9 2 1 1 1 1;"
            + "box d 1 1 3 3 3 3 3 3 3 3;kin a b;kin c a;tooth a 2;tooth b 9;tooth d 3;tooth a 9;");
        // b is heard 0 0 4 4 .., c 1 9 9 2 ..: at the places of pin 2 there are 4 twice and 9 twice
        Check.due("fill(0, 2)", x.fill(0, 2), 4);
        Check.due("fill without such a pin", x.fill(0, 9), 1);
        Check.due("fill without kin", x.fill(3, 3), 1);
        Check.due("not missing", x.fill(0, 1), -2);
        Check.due("tooth 0", x.fill(0, 0), -1);
        Check.due("tooth 10", x.fill(0, 10), -1);
        Check.due("box 4", x.fill(4, 1), -1);
        Check.due("box -1", x.fill(-1, 1), -1);
        x.tooth(1, 9, false);
        Check.due("9 is there thrice", x.fill(0, 2), 9);
        LaughDrum y = Check.told("box a 1 1 1 1 6 6 6 6 7 7;box b 1 1 2 2 2 2 2 2 2 2;kin b a;tooth b 2;");
        Check.due("of kin with the first box", y.fill(1, 2), 6);
    }

    private static void join() {
        LaughDrum x = Check.told("box a 1 1 5 6 7 8 1 1 1 1;box b 1 1 1 1 1 2 3 4 5 6;box c 1 1 1 1 1 1 1 1 1 1;");
        // b on a: 5 6; a on b: 1 1 1; a on c: 1 1 1 1; c on b: 1 1 1
        Check.due("join(3, 6)", x.join(3, 6), 13);
        Check.due("join(3, 0)", x.join(3, 0), 0);
        Check.due("join(3, 1)", x.join(3, 1), 1);
        Check.due("join(3, 2)", x.join(3, 2), -2);
        Check.due("join(7, 6)", x.join(7, 6), 17);
        Check.due("join(7, 0)", x.join(7, 0), 0);
        Check.due("join(7, 1)", x.join(7, 1), 2);
        Check.due("join(7, 2)", x.join(7, 2), 1);
        Check.due("join(4, 0)", x.join(4, 0), 2);
        Check.due("join(4, 6)", x.join(4, 6), 8);
        Check.due("join(0, 6)", x.join(0, 6), 0);
        Check.due("join(0, 5)", x.join(0, 5), -2);
        Check.due("join(8, 6)", x.join(8, 6), -1);
        Check.due("join(-1, 6)", x.join(-1, 6), -1);
        Check.due("join(3, 7)", x.join(3, 7), -1);
        Check.due("join(3, -1)", x.join(3, -1), -1);
        Check.due("join(int least, 0)", x.join(Integer.MIN_VALUE, 0), -1);
    }

    private static void joinByZero() {
        LaughDrum x = Check.told("box a 1 1 9 9 9 9 9 0 0 0;box b 1 1 0 0 0 9 9 9 9 9;box c 1 1 4 4 4 4 4 4 4 4;"
            + "box d 1 1 4 4 4 4 4 4 4 4;");
        Check.due("five nines", x.join(3, 6), 11);
        Check.due("b first", x.join(3, 0), 1);
        x.tooth(0, 9, true);
        x.tooth(1, 9, true);
        Check.due("seven at most, nothing heard", x.join(3, 6), 9);
        Check.due("a first then", x.join(3, 0), 0);
        Check.due("seven at most", x.join(12, 6), 9);
        Check.due("all", x.join(15, 6), 18);
        LaughDrum six = Check.told("box a 1 1 5 5 5 5 5 5 6 6;box b 1 1 4 4 4 4 4 4 5 5;box c 1 1 3 3 3 3 3 3 4 4;"
            + "box d 1 1 2 2 2 2 2 2 3 3;box e 1 1 1 1 1 1 1 1 2 2;box f 1 1 9 9 9 9 9 9 1 1;");
        Check.due("six", six.join(63, 6), 38);
        for (int i = 0; i < 6; i++) {
            Check.due("six at " + i, six.join(63, i), 5 - i);
        }
    }

    private static void duet() {
        LaughDrum x = Check.told("box a 1 1 1 2 3 4 5 6 7 8;box b 1 9 9 8 9 9 9 9 9 9;box c 1 2 0 1 0 0 0 0 0 0;"
            + "box d 1 1 0 0 0 0 0 0 0 0;");
        Check.due("duet(0, 1)", x.duet(0, 1), 15);
        Check.due("duet(1, 0)", x.duet(1, 0), 15);
        // c sounds 1 at minutes 2, 3, 18, 19, ..; a at 0, 8, 16, ..
        Check.due("duet(0, 2)", x.duet(0, 2), -2);
        Check.due("silence", x.duet(2, 3), -2);
        Check.due("at once", Check.told("box a 1 1 1 2 3 4 5 6 7 8;box b 1 9 1 0 0 0 0 0 0 0;").duet(1, 0), 0);
        Check.due("duet(0, 0)", x.duet(0, 0), -1);
        Check.due("duet(0, 4)", x.duet(0, 4), -1);
        Check.due("duet(-1, 0)", x.duet(-1, 0), -1);
        LaughDrum y = Check.told("box a 1 9 0 0 0 0 0 0 0 1;box b 1 8 1 0 0 0 0 0 0 0;");
        // a: 63 .. 71 of 72, b: 0 .. 7 of 64
        Check.due("late", y.duet(0, 1), 64);
    }

    private static void tree() {
        LaughDrum x = Check.told("box a 1 1 1 1 1 1 1 1 1 1;");
        Check.due("one", x.tree(), 0);
        x = Check.told("box a 1 1 1 1 1 1 2 2 2 2;box b 1 1 1 1 1 1 3 3 3 3;box c 1 1 4 4 4 4 3 3 3 3;"
            + "box d 1 1 1 1 1 5 3 3 3 3;");
        // a-b 4, b-c 4, b-d 1
        Check.due("four", x.tree(), 9);
        x.tooth(1, 3, true);
        // a-b 4, b-d 5, a-d 5, c-d 4
        Check.due("without a tooth", x.tree(), 13);
    }

    private static void forged() {
        LaughDrum x = Check.told("box a 1 1 1 2 3 4 5 6 7 8;box b 1 1 1 2 3 4 5 6 1 1;box c 1 1 1 2 3 4 5 6 7 8;"
            + "box d 1 1 1 2 3 4 5 9 9 9;kin a c;");
        Check.due("forged", x.forged(), 7);
        LaughDrum y = Check.told("box a 1 1 1 2 3 4 5 6 7 8;box b 1 1 1 2 3 4 5 6 1 1;box c 1 1 1 2 3 4 5 1 1 1;kin a b;");
        Check.due("kin are not", y.forged(), 6);
        y.tooth(1, 1, true);
        Check.due("five are too few", y.forged(), 0);
    }

    private static void quote() {
        LaughDrum x = Check.told("box a 1 1 1 2 3 0 5 6 7 8;box b 1 1 5 6 7 8 0 1 2 3;box c 1 1 8 1 2 0 3 0 5 6;"
            + "box d 1 1 0 0 0 0 0 0 0 0;");
        Check.due("quote(0, 1)", x.quote(0, 1), 4);
        Check.due("quote(1, 0)", x.quote(1, 0), 4);
        Check.due("quote(0, 2)", x.quote(0, 2), 2);
        Check.due("nothing above 0", x.quote(0, 3), 0);
        Check.due("itself", x.quote(0, 0), -1);
        Check.due("quote(0, 4)", x.quote(0, 4), -1);
        Check.due("quote(-1, 1)", x.quote(-1, 1), -1);
        x.tooth(0, 7, true);
        Check.due("without a tooth", x.quote(0, 1), 3);
    }
}
