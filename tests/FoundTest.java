/** Promises 19, 31, 38 to 41: whose, ask, find, strike, known, sours. */
final class FoundTest {
    private static final String THREE = "box a 9 1 1 2 3 4 0 5 6 7;box b 9 1 1 3 3 4 0 5 6 8;box c 9 1 2 2 3 9 0 9 9 9;tooth b 4;damp 100;";

    public static void main(String[] args) {
        findAndWhose();
        strikes();
        known();
        bounds();
        ask();
        sours();
        Check.end();
    }

    private static void findAndWhose() {
        LaughDrum x = Check.told(THREE);
        Check.due("all at first", x.whose(), 7);
        Check.due("find", x.find(0, 1, true), 0);
        Check.due("1 at 0", x.whose(), 3);
        Check.due("find", x.find(3, 0, false), 1);
        Check.due("not 0 at 3", x.whose(), 1);
        Check.due("find", x.find(4, 0, true), 2);
        Check.due("0 at 4", x.whose(), 1);
        x.tooth(1, 4, false);
        Check.due("what is heard now", x.whose(), 3);
        x.years(5);
        Check.due("more false", x.whose(), 0);
        Check.due("nothing told", new LaughDrum().whose(), 0);
    }

    private static void strikes() {
        LaughDrum x = Check.told(THREE);
        x.find(0, 2, true);
        x.find(1, 3, true);
        Check.due("none", x.whose(), 0);
        Check.due("strike(1)", x.strike(1), 2);
        Check.due("2 at 0", x.whose(), 4);
        Check.due("strike(2)", x.strike(2), 3);
        Check.due("the strike doesn't count", x.whose(), 0);
        Check.due("strike(0)", x.strike(0), 4);
        Check.due("3 at 1", x.whose(), 2);
        Check.due("strike(3)", x.strike(3), 5);
        Check.due("both are struck", x.whose(), 7);
        Check.due("strike(1) again", x.strike(1), 6);
        Check.due("strike(2) again", x.strike(2), 7);
        Check.due("1 is struck by 6 still", x.whose(), 7);
    }

    private static void known() {
        LaughDrum x = Check.told(THREE);
        Check.due("known(1) of none", x.known(1), false);
        Check.due("known(0) of none", x.known(0), true);
        x.find(0, 2, true);
        Check.due("by 0", x.whose(), 7);
        Check.due("count", x.count(11), 0);
        Check.due("known(1)", x.known(1), true);
        x.find(1, 3, true);
        Check.due("by 1", x.whose(), 4);
        Check.due("known(2)", x.known(2), true);
        x.strike(1);
        Check.due("by 2 without the strike", x.whose(), 0);
        Check.due("known(-1)", x.known(-1), true);
        Check.due("by all", x.whose(), 4);
        x.strike(0);
        Check.due("also those to come", x.whose(), 7);
        Check.due("known(5)", x.known(5), false);
        Check.due("known(-2)", x.known(-2), false);
        Check.due("as it was", x.count(11), 4);
        Check.due("known(4)", x.known(4), true);
    }

    private static void bounds() {
        LaughDrum x = Check.told(THREE);
        Check.due("place 8", x.find(8, 0, true), -1);
        Check.due("place -1", x.find(-1, 0, true), -1);
        Check.due("heard 10", x.find(0, 10, true), -1);
        Check.due("heard -1", x.find(0, -1, true), -1);
        Check.due("strike of none", x.strike(0), -1);
        for (int i = 0; i < 23; i++) {
            Check.due("find " + i, x.find(i % 8, i % 10, false), i);
        }
        Check.due("strike(-1)", x.strike(-1), -1);
        Check.due("strike(23)", x.strike(23), -1);
        Check.due("strike(22)", x.strike(22), 23);
        Check.due("a 25th", x.find(0, 0, true), -1);
        Check.due("a 25th strike", x.strike(0), -1);
        Check.due("24", x.count(10), 24);
    }

    private static void ask() {
        LaughDrum x = Check.told("box a 9 1 1 2 3 4 0 5 6 7;box b 9 1 1 2 3 4 0 5 6 8;box c 9 1 1 2 4 5 0 9 9 9;box d 9 1 1 2 5 5 0 9 7 9;");
        Check.due("place", x.ask(0), 2);
        Check.due("at worst", x.ask(1), 2);
        x.find(7, 9, false);
        Check.due("of a and b", x.ask(0), 7);
        Check.due("at worst", x.ask(1), 1);
        x.find(7, 8, false);
        Check.due("of a", x.ask(0), 0);
        Check.due("at worst", x.ask(1), 1);
        x.find(7, 7, false);
        Check.due("of none", x.ask(0), 0);
        Check.due("at worst", x.ask(1), 0);
        Check.due("ask(2)", x.ask(2), -1);
        Check.due("ask(-1)", x.ask(-1), -1);
    }

    private static void sours() {
        LaughDrum x = Check.told(THREE);
        Check.due("all", x.sours(0), 1023);
        x.find(0, 3, true);
        Check.due("3 at 0 of a", x.sours(0), 4);
        Check.due("3 at 0 of c", x.sours(2), 2);
        x.strike(0);
        x.find(0, 9, true);
        Check.due("9 at 0 of a", x.sours(0), 256 + 512);
        x.find(3, 0, true);
        Check.due("a has its tooth", x.sours(0), 0);
        Check.due("b misses it", x.sours(1), 256 + 512);
        x.years(9);
        Check.due("in place of what it is", x.sours(1), 256 + 512);
        Check.due("box 3", x.sours(3), -1);
        Check.due("box -1", x.sours(-1), -1);
    }
}
