/** Promises 12 to 14, 44 to 46: wind, steal, tooth, undo, keep, back. */
final class CallsTest {
    private static final String TEXT = "box a 5 2 1 2 3 4 0 5 6 7;box b 98 3 1 1 0 0 0 0 0 0;tooth a 7;damp 60;seed 4;";

    public static void main(String[] args) {
        wind();
        steal();
        tooth();
        undo();
        undoAtMost();
        undoAndYears();
        image();
        Check.end();
    }

    private static void wind() {
        LaughDrum x = Check.told(TEXT);
        Check.due("wind(0, 3)", x.wind(0, 3), 8);
        Check.due("wind(1, 5)", x.wind(1, 5), 99);
        Check.due("it is 99", x.wind(1, 1), -2);
        Check.due("turns 0", x.wind(0, 0), -1);
        Check.due("turns 100", x.wind(0, 100), -1);
        Check.due("turns of the least int", x.wind(0, Integer.MIN_VALUE), -1);
        Check.due("turns of the most", x.wind(0, Integer.MAX_VALUE), -1);
        Check.due("box 2", x.wind(2, 1), -1);
        Check.due("box -1", x.wind(-1, 1), -1);
        Check.due("two to undo", x.count(12), 2);
        x.steal(0, true);
        Check.due("stolen", x.wind(0, 1), -2);
        Check.due("stolen and no such turns", x.wind(0, 0), -1);
        x.steal(0, false);
        Check.due("given back", x.wind(0, 99), 99);
    }

    private static void steal() {
        LaughDrum x = Check.told(TEXT);
        Check.due("give back what isn't stolen", x.steal(0, false), false);
        Check.due("steal", x.steal(0, true), true);
        Check.due("steal again", x.steal(0, true), false);
        Check.due("box(0, 5)", x.box(0, 5), 1);
        Check.due("give back", x.steal(0, false), true);
        Check.due("box(0, 5) then", x.box(0, 5), 0);
        Check.due("box 2", x.steal(2, true), false);
        Check.due("box -1", x.steal(-1, true), false);
        Check.due("two to undo", x.count(12), 2);
    }

    private static void tooth() {
        LaughDrum x = Check.told(TEXT);
        Check.due("missing already", x.tooth(0, 7, true), false);
        Check.due("set already", x.tooth(0, 6, false), false);
        Check.due("set", x.tooth(0, 7, false), true);
        Check.due("heard then", x.heard(0, 7), 7);
        Check.due("broken", x.tooth(0, 1, true), true);
        Check.due("heard of it", x.heard(0, 0), 0);
        Check.due("teeth", x.box(0, 6), 2);
        Check.due("tooth 0", x.tooth(0, 0, true), false);
        Check.due("tooth 10", x.tooth(0, 10, true), false);
        Check.due("tooth 33", x.tooth(0, 33, true), false);
        Check.due("box 2", x.tooth(2, 1, true), false);
        Check.due("box -1", x.tooth(-1, 1, true), false);
        for (int t = 2; t <= 9; t++) {
            Check.due("broken " + t, x.tooth(0, t, true), true);
            Check.due("broken of b " + t, x.tooth(1, t, true), true);
        }
        Check.due("more than twelve by call", x.count(8), 17);
    }

    private static void undo() {
        LaughDrum x = Check.told(TEXT);
        Check.due("nothing", x.undo(), -1);
        x.wind(0, 90);
        x.wind(0, 90);
        x.steal(0, true);
        x.tooth(0, 7, false);
        x.tooth(1, 7, true);
        Check.due("undo", x.undo(), 4);
        Check.due("teeth of b", x.box(1, 6), 0);
        Check.due("undo", x.undo(), 3);
        Check.due("teeth of a", x.box(0, 6), 128);
        Check.due("undo", x.undo(), 2);
        Check.due("stolen", x.box(0, 5), 0);
        Check.due("spring", x.box(0, 0), 99);
        Check.due("undo", x.undo(), 1);
        Check.due("spring", x.box(0, 0), 95);
        Check.due("undo", x.undo(), 0);
        Check.due("spring", x.box(0, 0), 5);
        Check.due("undo", x.undo(), -1);
    }

    private static void undoAtMost() {
        LaughDrum x = Check.told(TEXT);
        for (int i = 1; i <= 25; i++) {
            x.wind(0, 1);
            Check.due("to undo by " + i, x.count(12), Math.min(20, i));
        }
        for (int i = 19; i >= 0; i--) {
            Check.due("undo to " + i, x.undo(), i);
        }
        Check.due("no more", x.undo(), -1);
        Check.due("the first five stay", x.box(0, 0), 10);
    }

    private static void undoAndYears() {
        LaughDrum x = Check.told(TEXT);
        x.wind(0, 1);
        x.years(0);
        x.years(100);
        Check.due("no year went by", x.count(12), 1);
        x.years(1);
        Check.due("a year went by", x.count(12), 0);
        Check.due("undo", x.undo(), -1);
        x.find(0, 0, true);
        x.known(0);
        Check.due("found isn't undone", x.undo(), -1);
    }

    private static void image() {
        LaughDrum x = Check.told(TEXT);
        Check.due("none", x.back(), -1);
        x.years(3);
        x.steal(1, true);
        x.tooth(0, 1, true);
        Check.due("keep", x.keep(), 3);
        Check.due("still to undo", x.count(12), 2);
        int[] kept = state(x);
        x.years(9);
        int[] nine = state(x);
        x.steal(1, false);
        x.wind(0, 9);
        x.tooth(0, 1, false);
        x.find(0, 1, true);
        Check.due("back", x.back(), 3);
        Check.due("nothing to undo", x.undo(), -1);
        same("kept", state(x), kept);
        Check.due("found stays", x.count(10), 1);
        x.years(9);
        same("the same nine years", state(x), nine);
        Check.due("back again", x.back(), 3);
        same("kept again", state(x), kept);
        x.years(1);
        Check.due("another one", x.keep(), 4);
        x.years(5);
        Check.due("back to the other one", x.back(), 4);
        Check.text(x, "");
        Check.due("none of another text", x.back(), -1);
    }

    private static int[] state(LaughDrum x) {
        int[] state = new int[20];
        for (int what = 0; what < 7; what++) {
            state[what] = x.box(0, what);
            state[what + 7] = x.box(1, what);
        }
        for (int what = 4; what < 10; what++) {
            state[what + 10] = x.count(what);
        }
        return state;
    }

    private static void same(String what, int[] got, int[] want) {
        for (int i = 0; i < want.length; i++) {
            Check.due(what + " " + i, got[i], want[i]);
        }
    }
}
