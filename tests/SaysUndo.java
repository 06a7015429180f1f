/** What the document says of undoing, images and counts: promises 44 to 47. */
final class SaysUndo extends Check {
    private static final String SIX = SaysText.SIX;
    private static final String TWO = "box a 5 2 1 2 3 4 0 5 6 7;box b 98 3 1 1 0 0 0 0 0 0;tooth a 7;damp 60;seed 4;";

    static void all() {
        test(SaysUndo::whatCanBeUndone);
        test(SaysUndo::undoneByTwenty);
        test(SaysUndo::undoneInTheYear);
        test(SaysUndo::imageOfAll);
        test(SaysUndo::imageWithoutFound);
        test(SaysUndo::undo);
        test(SaysUndo::keep);
        test(SaysUndo::back);
        test(SaysUndo::counts);
        test(SaysUndo::countNone);
    }

    /** What the calls tell of all that may change. */
    private static String state(LaughDrum x) {
        StringBuilder state = new StringBuilder();
        for (int box = 0; box < x.count(0); box++) {
            for (int what = 0; what <= 6; what++) {
                state.append(x.box(box, what)).append(' ');
            }
        }
        for (int what = 0; what <= 9; what++) {
            state.append(x.count(what)).append(' ');
        }
        return state.toString();
    }

    private static void whatCanBeUndone() {
        says("Terms for promise 44", "Winding, stealing, TEETH by call can be undone, the latest first");
        LaughDrum x = told(TWO);
        String[] states = new String[7];
        int n = 0;
        states[n++] = state(x);
        due("wind", x.wind(0, 90), 95);
        states[n++] = state(x);
        due("wind, cut", x.wind(0, 90), 99);
        states[n++] = state(x);
        due("steal", x.steal(0, true), true);
        states[n++] = state(x);
        due("set", x.tooth(0, 7, false), true);
        states[n++] = state(x);
        due("break", x.tooth(1, 7, true), true);
        states[n++] = state(x);
        due("give back", x.steal(0, false), true);
        states[n++] = state(x);
        x.find(0, 0, true);
        x.strike(0);
        x.known(1);
        x.keep();
        due("six", x.count(12), 6);
        for (int left = 5; left >= 0; left--) {
            due("undo", x.undo(), left);
            due("as it was ahead of it", state(x).equals(states[left]), true);
        }
        due("no more", x.undo(), NONE);
        due("what was found isn't undone", x.count(10), 2);
        due("nor by how many it is known", x.count(11), 1);
    }

    private static void undoneByTwenty() {
        says("Terms for promise 44", "(20 at most),");
        LaughDrum x = told(TWO);
        for (int i = 1; i <= 20; i++) {
            x.wind(0, 1);
            due("to undo by " + i, x.count(12), i);
        }
        for (int left = 19; left >= 0; left--) {
            due("undo to " + left, x.undo(), left);
        }
        due("all twenty", x.box(0, 0), 5);
        for (int i = 1; i <= 21; i++) {
            x.wind(0, 1);
        }
        due("to undo by 21", x.count(12), 20);
        for (int left = 19; left >= 0; left--) {
            due("undo to " + left + " of 21", x.undo(), left);
        }
        due("no more", x.undo(), NONE);
        due("the first one stays", x.box(0, 0), 6);
        mixed();
    }

    /** The one of 25 changes of all kinds, each of another box than the one ahead. */
    private static boolean change(LaughDrum x, int i) {
        int box = i % 2;
        switch (i % 5) {
            case 0: return x.wind(box, 1) > 0;
            case 1: return x.steal(2 + i / 5 % 2, true);
            case 2: return x.tooth(box, 1 + i % 9, true);
            case 3: return x.wind(box, 2) > 0;
            default: return i / 5 < 2 ? x.tooth(3, 1 + i % 9, true) : x.steal(2 + i / 5 % 2, false);
        }
    }

    /** What can be changed by call. */
    private static String changed(LaughDrum x) {
        StringBuilder changed = new StringBuilder();
        for (int box = 0; box < 4; box++) {
            changed.append(x.box(box, 0)).append(' ').append(x.box(box, 5)).append(' ').append(x.box(box, 6)).append(' ');
        }
        return changed.toString();
    }

    private static void mixed() {
        String four = drums("11111111", "11111111", "11111111", "11111111");
        LaughDrum x = told(four);
        int n = 0;
        int[] done = new int[40];
        for (int i = 0; i < 40; i++) {
            if (change(x, i)) {
                done[n] = i;
                n++;
            }
        }
        due("more than twenty of all kinds", n > 24, true);
        due("to undo of all kinds", x.count(12), 20);
        for (int left = 19; left >= 0; left--) {
            due("undo of all kinds", x.undo(), left);
            LaughDrum other = told(four);
            for (int i = 0; i < n - 20 + left; i++) {
                due("the same change", change(other, done[i]), true);
            }
            due("as it was with " + left + " left", changed(x).equals(changed(other)), true);
        }
        due("no more of all kinds", x.undo(), NONE);
    }

    private static void undoneInTheYear() {
        says("Terms for promise 44", "if no YEAR went by since.");
        LaughDrum x = told(TWO);
        x.wind(0, 1);
        due("years(0)", x.years(0), 0);
        due("no year went by", x.count(12), 1);
        due("years(100)", x.years(100), NONE);
        due("none went by", x.count(12), 1);
        x.ahead(0, 9, 0);
        x.chance(0, 9, 0, 0);
        x.tried(0, 0, 9);
        due("as it goes none goes by", x.undo(), 0);
        x.wind(0, 1);
        due("years(1)", x.years(1), 1);
        due("one went by", x.count(12), 0);
        due("undo", x.undo(), NONE);
        due("it stays", x.box(0, 0), 5);
        x.wind(0, 1);
        due("what comes in this year", x.undo(), 0);
    }

    private static void imageOfAll() {
        says("Terms for promise 46", "An IMAGE keeps all");
        LaughDrum x = told(TWO + "law wear 1 + plays / 9;law charm spring;");
        x.years(3);
        x.steal(1, true);
        x.tooth(0, 1, true);
        x.wind(0, 40);
        String kept = state(x);
        due("kept", x.keep(), 3);
        x.years(30);
        String thirty = state(x);
        x.steal(1, false);
        x.wind(0, 9);
        x.tooth(0, 1, false);
        x.tooth(1, 9, true);
        due("unlike", state(x).equals(kept), false);
        due("back", x.back(), 3);
        due("as it was kept", state(x).equals(kept), true);
        x.years(30);
        due("the numbers, too", state(x).equals(thirty), true);
        due("back again", x.back(), 3);
        due("as it was kept, again", state(x).equals(kept), true);
        LaughDrum six = told(SIX + "tooth f 1;damp 100;");
        six.years(1);
        six.wind(5, 9);
        String last = state(six);
        due("six are kept", six.keep(), 1);
        six.steal(5, true);
        six.tooth(5, 2, true);
        six.years(9);
        due("six are back", six.back(), 1);
        due("the last of six as it was kept", state(six).equals(last), true);
    }

    private static void imageWithoutFound() {
        says("Terms for promise 46", "but what was FOUND.");
        LaughDrum x = told(TWO);
        x.find(0, 1, true);
        x.keep();
        x.find(1, 1, true);
        x.strike(0);
        due("three", x.count(10), 3);
        due("back", x.back(), 0);
        due("three still", x.count(10), 3);
        due("the second alone isn't struck", x.whose(), 2);
        due("the next one", x.find(0, 0, true), 3);
    }

    private static void undo() {
        says("Promise 44", "The latest is undone: how many are left; NONE: none.");
        LaughDrum x = told(TWO);
        due("none", x.undo(), NONE);
        x.wind(0, 1);
        x.wind(1, 1);
        due("the latest", x.undo(), 1);
        due("b is as it was", x.box(1, 0), 98);
        due("a isn't", x.box(0, 0), 6);
        due("the other one", x.undo(), 0);
        due("a is as it was, too", x.box(0, 0), 5);
        due("none then", x.undo(), NONE);
        x.wind(1, 1);
        x.wind(1, 1);
        due("a refused call is none", x.undo(), 0);
        due("none at all", new LaughDrum().undo(), NONE);
    }

    private static void keep() {
        says("Promise 45", "An IMAGE is kept (in place of one ahead): which YEAR it is.");
        LaughDrum x = told(TWO);
        due("in year 0", x.keep(), 0);
        x.wind(0, 7);
        due("in year 0 again", x.keep(), 0);
        due("still to undo", x.count(12), 1);
        x.undo();
        due("back", x.back(), 0);
        due("the later one", x.box(0, 0), 12);
        x.years(9);
        due("in year 9", x.keep(), 9);
        x.years(5);
        due("back to the last one", x.back(), 9);
        x.years(1);
        due("in year 10", x.keep(), 10);
        due("back at once", x.back(), 10);
        due("without a text", new LaughDrum().keep(), 0);
    }

    private static void back() {
        says("Promise 46", "All (but what was FOUND) is as in the IMAGE (nothing to undo then): which YEAR it is; NONE: there is none.");
        LaughDrum x = told(TWO);
        due("there is none", x.back(), NONE);
        x.wind(0, 1);
        due("all stays", x.box(0, 0) * 10 + x.count(12), 61);
        x.keep();
        x.wind(0, 1);
        due("two to undo", x.count(12), 2);
        due("back", x.back(), 0);
        due("as it was", x.box(0, 0), 6);
        due("nothing to undo", x.count(12), 0);
        due("undo", x.undo(), NONE);
        due("back once more", x.back(), 0);
        x.years(2);
        due("back by two years", x.back(), 0);
        due("year", x.count(4), 0);
        due("a faulty text", text(x, "?"), NONE);
        due("it is there still", x.back(), 0);
        due("a text", text(x, TWO), 5);
        due("of another text there is none", x.back(), NONE);
        due("without a text", new LaughDrum().back(), NONE);
    }

    private static void counts() {
        says("Promise 47", "0 BOXES, 1 KIN, 2 GUESTS, 3 KNOTS, 4 the YEAR, 5 PLAYED by all, 6 LAUGHTER of all, 7 STOLEN, 8 TEETH MISSING in all, 9 DAMP YEARS so far, 10 FOUND, 11 by how many it is KNOWN, 12 what can be undone.");
        LaughDrum none = new LaughDrum();
        for (int what = 0; what <= 12; what++) {
            due("none, " + what, none.count(what), 0);
        }
        LaughDrum full = new LaughDrum();
        text(full, SIX + SaysText.NINE_KIN + SaysText.TWELVE_TEETH + SaysText.FIVE_GUESTS + "damp 100;law wear " + "not ".repeat(63) + "1;");
        int[] most = {6, 9, 5, 64, 0, 0, 0, 0, 12, 0, 0, 0, 0};
        for (int what = 0; what <= 12; what++) {
            due("full, " + what, full.count(what), most[what]);
        }
        LaughDrum x = told("box a 5 2 1 2 3 4 0 5 6 7;box b 3 3 1 1 0 0 0 0 0 0;box c 1 1 3 0 0 0 0 0 0 0;"
            + "tooth a 1;tooth b 1;kin a b;guest g 1 1;damp 100;law wear 1 + 1;");
        x.years(2);
        x.tooth(0, 2, true);
        x.steal(1, true);
        x.find(0, 0, true);
        x.find(1, 0, true);
        x.strike(0);
        x.known(2);
        // a laughs 6 twice, b is not heard, c laughs once
        int[] due = {3, 1, 1, 3, 2, 5, 13, 1, 3, 2, 3, 2, 2};
        for (int what = 0; what <= 12; what++) {
            due("count(" + what + ")", x.count(what), due[what]);
        }
        x.known(-1);
        due("known by all", x.count(11), 3);
        x.find(1, 0, true);
        due("known by all that come", x.count(11), 4);
        x.steal(0, true);
        x.steal(2, true);
        due("all are stolen", x.count(7), 3);
    }

    private static void countNone() {
        says("Promise 47", "NONE for another what.");
        LaughDrum x = told(SIX);
        within("what", what -> x.count(what), 0, 12, NONE);
    }
}
