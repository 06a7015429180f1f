/** What the document says of what was found: promises 19, 31, 38 to 41. */
final class SaysFound extends Check {
    private static final String SIX = SaysText.SIX;
    private static final String THREE = "box a 9 1 1 2 3 4 0 5 6 7;box b 9 1 1 3 3 4 0 5 6 8;box c 9 1 2 2 3 9 0 9 9 9;tooth b 4;damp 100;";

    static void all() {
        test(SaysFound::whoseOfTerms);
        test(SaysFound::whose);
        test(SaysFound::foundOfTerms);
        test(SaysFound::strikesOfTerms);
        test(SaysFound::knownOfTerms);
        test(SaysFound::struckStrikes);
        test(SaysFound::askOfTerms);
        test(SaysFound::ask);
        test(SaysFound::soursOfTerms);
        test(SaysFound::find);
        test(SaysFound::findNone);
        test(SaysFound::strike);
        test(SaysFound::strikeNone);
        test(SaysFound::known);
        test(SaysFound::knownNone);
        test(SaysFound::sours);
    }

    private static void whoseOfTerms() {
        says("Terms for promise 19", "WHOSE: BOXES (bits) of which all that is KNOWN of what was FOUND is so.");
        LaughDrum x = told(THREE);
        due("nothing is known", x.whose(), 7);
        x.find(0, 1, true);
        due("1 at 0", x.whose(), 3);
        x.find(7, 8, false);
        due("and not 8 at 7", x.whose(), 1);
        x.find(4, 0, true);
        due("and 0 at 4", x.whose(), 1);
        x.find(4, 0, false);
        due("and not 0 at 4", x.whose(), 0);
        x.known(1);
        due("1 at 0 alone is known", x.whose(), 3);
        x.known(2);
        due("the first two are known", x.whose(), 1);
    }

    private static void whose() {
        says("Promise 19", "WHOSE (bits).");
        due("none told", new LaughDrum().whose(), 0);
        due("six", told(SIX).whose(), 63);
        LaughDrum x = told(drums("10000000", "20000000", "30000000", "40000000", "50000000", "60000000"));
        x.find(0, 6, true);
        due("the last one", x.whose(), 32);
        x.strike(0);
        x.find(0, 1, false);
        due("all but the first one", x.whose(), 62);
    }

    private static void foundOfTerms() {
        says("Terms for promise 38", "FOUND, at most 24, numbered from 0 on: at a place 0 .. 7 so much 0 .. 9 is HEARD now, or isn't.");
        for (int place = 0; place < 8; place++) {
            for (int heard = 0; heard <= 9; heard++) {
                LaughDrum x = told("box a 1 1 0 1 2 3 4 5 6 9;");
                int is = x.heard(0, place) == heard ? 1 : 0;
                x.find(place, heard, true);
                due(heard + " at " + place, x.whose(), is);
                x.strike(0);
                x.find(place, heard, false);
                due("not " + heard + " at " + place, x.whose(), 1 - is);
            }
        }
        LaughDrum x = told(THREE);
        x.find(3, 0, true);
        due("a missing tooth's 0", x.whose(), 2);
        x.tooth(1, 4, false);
        due("it is set now", x.whose(), 0);
        x.tooth(0, 4, true);
        due("another one is missing now", x.whose(), 1);
        LaughDrum y = told(THREE);
        y.find(0, 1, true);
        y.years(4);
        due("of false 4", y.whose(), 3);
        y.years(1);
        due("of false 5", y.whose(), 0);
        LaughDrum full = told(THREE);
        for (int i = 0; i < 24; i++) {
            due("numbered " + i, full.find(0, 2, false), i);
        }
        due("a 25th", full.find(0, 1, false), NONE);
        due("it is not found", full.whose(), 3);
        due("24", full.count(10), 24);
    }

    private static void strikesOfTerms() {
        says("Terms for promise 39", "A STRIKE of one.");
        LaughDrum x = told(THREE);
        x.find(0, 2, true);
        x.find(1, 3, true);
        due("both", x.whose(), 0);
        x.strike(1);
        due("the second one is struck", x.whose(), 4);
        x.strike(0);
        due("the first one, too", x.whose(), 7);
        x.strike(0);
        due("struck twice", x.whose(), 7);
        due("strikes are found, too", x.count(10), 5);
    }

    private static void knownOfTerms() {
        says("Terms for promise 40", "KNOWN by n (all at first): the first n that aren't STRUCK by one of these");
        LaughDrum x = told(THREE);
        x.find(0, 2, true);
        due("all at first", x.whose(), 4);
        x.find(1, 3, true);
        x.strike(1);
        x.strike(0);
        int[] due = {7, 4, 0, 4, 7};
        for (int n = 0; n < due.length; n++) {
            due("known(" + n + ")", x.known(n), true);
            due("whose by " + n, x.whose(), due[n]);
            due("how many by " + n, x.count(11), n);
        }
        x.find(0, 9, true);
        due("the fifth isn't known by 4", x.whose(), 7);
        x.known(-1);
        due("it is by all", x.whose(), 0);
    }

    private static void struckStrikes() {
        says("Terms for promise 40", "(a STRIKE may be STRUCK: then it doesn't count; asked from the last one on).");
        LaughDrum x = told(THREE);
        x.find(0, 2, true);
        int[] due = {7, 4, 7, 4, 7, 4};
        for (int i = 0; i < 5; i++) {
            due("strike the last one", x.strike(i), i + 1);
            due("whose by " + (i + 2), x.whose(), i % 2 == 0 ? 7 : 4);
        }
        for (int n = 1; n < due.length; n++) {
            x.known(n);
            due("whose by " + n + " again", x.whose(), n % 2 == 1 ? 4 : 7);
        }
        LaughDrum y = told(THREE);
        y.find(0, 2, true);
        y.strike(0);
        y.strike(0);
        y.strike(1);
        due("struck by another one still", y.whose(), 7);
        y.strike(2);
        due("struck by none", y.whose(), 4);
        y.strike(4);
        due("struck by the second again", y.whose(), 7);
        y.known(4);
        due("by four: struck by the second", y.whose(), 7);
        y.known(5);
        due("by five: struck by none", y.whose(), 4);
        LaughDrum full = told(THREE);
        full.find(0, 2, true);
        for (int i = 1; i < 24; i++) {
            full.strike(i - 1);
        }
        due("a chain of 23 strikes", full.whose(), 7);
        full.known(23);
        due("a chain of 22 strikes", full.whose(), 4);
    }

    private static void askOfTerms() {
        says("Terms for promise 31", "ASK: for each place the most BOXES of WHOSE that have one and the same HEARD there (the worst case): the place by which that is least, the first of several.");
        LaughDrum x = told("box a 9 1 1 2 3 4 0 5 6 7;box b 9 1 1 2 3 4 0 5 6 8;box c 9 1 1 2 4 5 0 9 9 9;box d 9 1 1 2 5 5 0 9 7 9;");
        due("place 2 of 2, 3, 5, 6, 7", x.ask(0), 2);
        due("two at worst", x.ask(1), 2);
        x.find(7, 9, false);
        due("a and b: the last place", x.ask(0), 7);
        due("one at worst", x.ask(1), 1);
        x.find(7, 8, false);
        due("a alone: all places", x.ask(0), 0);
        due("one at worst", x.ask(1), 1);
        x.find(7, 7, false);
        due("none: all places", x.ask(0), 0);
        due("none at worst", x.ask(1), 0);
        LaughDrum same = told(SIX);
        due("all the same", same.ask(0), 0);
        due("six at worst", same.ask(1), 6);
        LaughDrum zero = told(drums("10111111", "10111111", "10222222", "23222222", "24222222"));
        due("one and the same 0 counts", zero.ask(0), 0);
        due("three at worst", zero.ask(1), 3);
        for (int place = 0; place < 8; place++) {
            String drum = "1".repeat(place) + "2" + "1".repeat(7 - place);
            due("place " + place, told(drums("11111111", drum)).ask(0), place);
        }
        LaughDrum tooth = told(drums("11111111", "11111112", "11111113"));
        due("three ways at the last", tooth.ask(0), 7);
        tooth.tooth(1, 2, true);
        tooth.tooth(2, 3, true);
        due("two aren't heard", tooth.ask(1), 2);
    }

    private static void ask() {
        says("Promise 31", "ASK, what 0: the place, 1: how many BOXES are left at worst. NONE for another what.");
        LaughDrum x = told(drums("11111111", "11111112", "11111113"));
        due("the place", x.ask(0), 7);
        due("how many", x.ask(1), 1);
        within("what", what -> x.ask(what), 0, 1, NONE);
        LaughDrum none = new LaughDrum();
        due("none told: the place", none.ask(0), 0);
        due("none told: how many", none.ask(1), 0);
        due("none told: another what", none.ask(2), NONE);
    }

    private static void soursOfTerms() {
        says("Terms for promise 41", "SOURS of a BOX: FALSE 0, 5, 10, .. 45 (bits 0 .. 9) in place of what it is, by which all KNOWN ones are so of it.");
        for (int k = 0; k <= 9; k++) {
            LaughDrum x = told("box a 9 1 0 1 1 1 1 1 1 1;damp 100;");
            x.years(k * 11);
            x.find(1, Math.min(9, 1 + k), true);
            due("heard " + Math.min(9, 1 + k), x.sours(0), k < 8 ? 1 << k : 1 << 8 | 1 << 9);
        }
        LaughDrum nine = told("box a 9 1 9 1 1 1 1 1 1 1;");
        nine.find(0, 9, true);
        due("9 by any", nine.sours(0), 1023);
        nine.find(0, 9, false);
        due("not 9 by none", nine.sours(0), 0);
        LaughDrum x = told(THREE);
        due("nothing is known", x.sours(0), 1023);
        x.find(0, 3, true);
        due("3 at 0 of a", x.sours(0), 4);
        due("3 at 0 of c", x.sours(2), 2);
        x.strike(0);
        x.find(0, 9, false);
        due("not 9 at 0", x.sours(0), 255);
        x.find(3, 0, true);
        due("0 at 3 of a", x.sours(0), 0);
        due("0 at 3 of b, which misses it", x.sours(1), 255);
        x.years(9);
        due("in place of what it is", x.sours(1), 255);
        x.known(3);
        due("by the first three", x.sours(0), 255);
        x.known(1);
        due("by the first one", x.sours(0), 4);
    }

    private static void find() {
        says("Promise 38", "FOUND: its number;");
        LaughDrum x = told(THREE);
        due("the first", x.find(0, 0, true), 0);
        due("the second", x.find(7, 9, false), 1);
        due("a strike between", x.strike(0), 2);
        due("the fourth", x.find(0, 0, true), 3);
        due("four", x.count(10), 4);
        due("without boxes", new LaughDrum().find(0, 0, true), 0);
    }

    private static void findNone() {
        says("Promise 38", "NONE: no such ones, or there are 24.");
        LaughDrum x = told(THREE);
        int[] places = {-1, 8, Integer.MIN_VALUE, Integer.MAX_VALUE};
        for (int place : places) {
            due("place " + place, x.find(place, 0, true), NONE);
        }
        int[] sounds = {-1, 10, Integer.MIN_VALUE, Integer.MAX_VALUE};
        for (int heard : sounds) {
            due("heard " + heard, x.find(0, heard, true), NONE);
        }
        due("nothing is found", x.count(10), 0);
        due("place 7, heard 9", x.find(7, 9, true), 0);
        due("place 0, heard 0", x.find(0, 0, true), 1);
        for (int i = 2; i < 24; i++) {
            due("numbered " + i, i % 2 == 0 ? x.find(0, 0, false) : x.strike(i - 1), i);
        }
        due("there are 24", x.find(0, 0, true), NONE);
        due("24 stay", x.count(10), 24);
    }

    private static void strike() {
        says("Promise 39", "A STRIKE: its number;");
        LaughDrum x = told(THREE);
        x.find(0, 9, true);
        due("of the first", x.strike(0), 1);
        due("of a strike", x.strike(1), 2);
        due("of the same one again", x.strike(1), 3);
        due("four", x.count(10), 4);
    }

    private static void strikeNone() {
        says("Promise 39", "NONE: no such one FOUND, or there are 24.");
        LaughDrum x = told(THREE);
        due("of none", x.strike(0), NONE);
        for (int i = 0; i < 23; i++) {
            x.find(0, 0, false);
        }
        due("-1", x.strike(-1), NONE);
        due("23 of 23", x.strike(23), NONE);
        due("the most", x.strike(Integer.MAX_VALUE), NONE);
        due("the least", x.strike(Integer.MIN_VALUE), NONE);
        due("23 stay", x.count(10), 23);
        due("22 of 23", x.strike(22), 23);
        due("there are 24", x.strike(0), NONE);
        due("24 stay", x.count(10), 24);
        x.known(1);
        due("there are 24, known or not", x.strike(0), NONE);
        LaughDrum y = told(THREE);
        y.find(0, 0, true);
        y.find(0, 0, true);
        y.known(0);
        due("one that isn't known is found, too", y.strike(1), 2);
    }

    private static void known() {
        says("Promise 40", "KNOWN by n from now on (-1: by all, also those to come): true;");
        LaughDrum x = told(THREE);
        due("0 of none", x.known(0), true);
        x.find(0, 2, true);
        due("from now on by 0", x.whose(), 7);
        due("by how many", x.count(11), 0);
        due("1 of 1", x.known(1), true);
        due("by 1", x.whose(), 4);
        x.find(1, 3, true);
        due("those to come aren't", x.whose(), 4);
        due("by how many still", x.count(11), 1);
        due("2 of 2", x.known(2), true);
        due("by 2", x.whose(), 0);
        due("0 of 2", x.known(0), true);
        due("by 0", x.whose(), 7);
        due("-1", x.known(-1), true);
        due("by all", x.whose(), 0);
        x.strike(1);
        due("also those to come", x.whose(), 4);
        due("by how many then", x.count(11), 3);
    }

    private static void knownNone() {
        says("Promise 40", "false: no such n.");
        LaughDrum x = told(THREE);
        due("1 of none", x.known(1), false);
        due("-2", x.known(-2), false);
        x.find(0, 2, true);
        x.find(1, 3, true);
        x.known(1);
        int[] none = {-2, 3, Integer.MIN_VALUE, Integer.MAX_VALUE};
        for (int n : none) {
            due("known(" + n + ")", x.known(n), false);
            due("it stays", x.count(11), 1);
        }
        due("2 of 2", x.known(2), true);
        for (int i = 2; i < 24; i++) {
            x.find(0, 0, false);
        }
        due("25 of 24", x.known(25), false);
        due("24 of 24", x.known(24), true);
    }

    private static void sours() {
        says("Promise 41", "SOURS (bits); NONE: no such BOX.");
        LaughDrum x = told(SIX);
        due("ten bits", x.sours(5), 1023);
        within("box", box -> x.sours(box), 0, 5, NONE);
        due("none told", new LaughDrum().sours(0), NONE);
    }
}
