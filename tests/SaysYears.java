/** What the document says of a year, of numbers, and promises 12 to 16, 26, 35 to 37, 42, 43. */
final class SaysYears extends Check {
    private static final String BOX_A = SaysText.BOX_A;
    private static final String SIX = SaysText.SIX;
    private static final String LONG = "box a 99 1 1 1 1 1 1 1 1 1;";
    private static final String TWO = "box a 5 2 1 2 3 4 0 5 6 7;box b 3 3 1 1 0 0 0 0 0 0;";

    static void all() {
        test(SaysYears::letGo);
        test(SaysYears::charm);
        test(SaysYears::charmWithout);
        test(SaysYears::wear);
        test(SaysYears::dampByNumber);
        test(SaysYears::sour);
        test(SaysYears::nextYear);
        test(SaysYears::numbers);
        test(SaysYears::asItGoes);
        test(SaysYears::wind);
        test(SaysYears::windRefused);
        test(SaysYears::windNone);
        test(SaysYears::steal);
        test(SaysYears::stealRefused);
        test(SaysYears::tooth);
        test(SaysYears::toothRefused);
        test(SaysYears::years);
        test(SaysYears::yearsRefused);
        test(SaysYears::ahead);
        test(SaysYears::aheadNone);
        test(SaysYears::lastsOfTerms);
        test(SaysYears::lasts);
        test(SaysYears::merriest);
        test(SaysYears::silent);
        test(SaysYears::runDown);
        test(SaysYears::chance);
        test(SaysYears::triedOfTerms);
        test(SaysYears::tried);
    }

    private static void letGo() {
        says("Terms for promise 15", "A YEAR: (1) by numbers each BOX that isn't STOLEN and has SPRING above 0 is let go: once more PLAYED;");
        LaughDrum x = told("box a 0 1 1 1 1 1 1 1 1 1;box b 1 1 1 1 1 1 1 1 1 1;box c 9 1 1 1 1 1 1 1 1 1;box d 9 1 1 1 1 1 1 1 1 1;");
        x.steal(3, true);
        x.years(1);
        int[] first = {0, 1, 1, 0};
        for (int box = 0; box < 4; box++) {
            due("played by " + box, x.box(box, 3), first[box]);
            due("laughter of " + box, x.box(box, 4), 8 * first[box]);
        }
        due("spring of the stolen one", x.box(3, 0), 9);
        due("spring of the one at 0", x.box(0, 0), 0);
        x.steal(3, false);
        x.wind(0, 1);
        x.years(2);
        int[] then = {1, 1, 3, 2};
        for (int box = 0; box < 4; box++) {
            due("played by " + box + " then", x.box(box, 3), then[box]);
        }
    }

    /** What a year makes of laughter, spring and false by a law. */
    private static void byLaw(String law, int value, int what, int due) {
        String e = value < 0 ? "0 - " + -value : "" + value;
        LaughDrum x = told("box a 50 1 1 1 1 1 0 0 0 0;damp 100;law " + law + " " + e + ";");
        int stood = x.box(0, what);
        x.years(1);
        due(law + " " + value, x.box(0, what) - stood, due);
    }

    private static void charm() {
        says("Terms for promise 15", "LAUGHTER is more by E of charm (0 .. 99;");
        byLaw("charm", 0, 4, 0);
        byLaw("charm", 1, 4, 1);
        byLaw("charm", 98, 4, 98);
        byLaw("charm", 99, 4, 99);
        byLaw("charm", 100, 4, 99);
        byLaw("charm", 9999, 4, 99);
        byLaw("charm", -1, 4, 0);
        byLaw("charm", -9999, 4, 0);
        LaughDrum x = told(LONG + "law charm 9999 * 9999 * 9999;");
        x.years(1);
        due("more than an int holds", x.box(0, 4), 99);
        LaughDrum y = told(LONG + "law charm 256 * 256 * 256 * 256 + 5;");
        y.years(1);
        due("5 without its high bits", y.box(0, 4), 99);
        LaughDrum z = told(LONG + "law charm 0 - 256 * 256 * 256 * 256 + 5;");
        z.years(1);
        due("5 without its high bits, below 0", z.box(0, 4), 0);
        LaughDrum sum = told("box a 9 1 1 1 1 1 1 1 1 1;law charm 99;");
        sum.years(9);
        due("nine times 99", sum.box(0, 4), 891);
    }

    private static void charmWithout() {
        says("Terms for promise 15", "how many of its eight are HEARD above 0, without, with an ERROR);");
        for (int n = 0; n <= 8; n++) {
            LaughDrum x = told("box a 9 1" + " 1".repeat(n) + " 0".repeat(8 - n) + ";");
            LaughDrum error = told("box a 9 1" + " 9".repeat(n) + " 0".repeat(8 - n) + ";law charm 1 / 0;");
            x.years(1);
            error.years(1);
            due("without, heard " + n, x.box(0, 4), n);
            due("with an error, heard " + n, error.box(0, 4), n);
        }
        LaughDrum tooth = told("box a 9 1 1 1 1 2 2 0 0 0;tooth a 1;");
        tooth.years(1);
        due("without a tooth", tooth.box(0, 4), 2);
        LaughDrum x = told("box a 3 1 1 1 1 2 2 0 0 0;law charm 60 / (spring - 2);");
        x.years(1);
        due("no error at spring 3", x.box(0, 4), 60);
        x.years(1);
        due("an error at spring 2", x.box(0, 4), 60 + 5);
        x.years(1);
        due("below 0 at spring 1", x.box(0, 4), 60 + 5);
    }

    private static void wear() {
        says("Terms for promise 15", "then SPRING is less by E of wear (0 .. 9; 1 without, with an ERROR), 0 at least.");
        byLaw("wear", 0, 0, 0);
        byLaw("wear", 1, 0, -1);
        byLaw("wear", 8, 0, -8);
        byLaw("wear", 9, 0, -9);
        byLaw("wear", 10, 0, -9);
        byLaw("wear", 9999, 0, -9);
        byLaw("wear", -1, 0, 0);
        byLaw("wear", -9999, 0, 0);
        LaughDrum without = told(BOX_A.replace("box a 1", "box a 9"));
        without.years(1);
        due("without", without.box(0, 0), 8);
        LaughDrum error = told(BOX_A.replace("box a 1", "box a 9") + "law wear 1 / 0;");
        error.years(1);
        due("with an error", error.box(0, 0), 8);
        for (int spring = 0; spring <= 10; spring++) {
            LaughDrum x = told("box a " + spring + " 1 1 1 1 1 1 1 1 1;law wear 9;");
            x.years(1);
            due("9 of " + spring, x.box(0, 0), Math.max(0, spring - 9));
            x.years(1);
            due("9 of " + spring + " twice", x.box(0, 0), 0);
        }
        LaughDrum y = told("box a 9 1 1 1 1 1 1 1 1 1;law charm spring;law wear spring;law sour spring;damp 100;");
        y.years(1);
        due("charm by the spring ahead of wear", y.box(0, 4), 9);
        due("wear by the spring", y.box(0, 0), 0);
        due("sour by the spring behind wear", y.box(0, 2), 0);
    }

    private static void dampByNumber() {
        says("Terms for promise 15", "(2) a number modulo 100 (no number, if damp is 0 or 100): below damp it is DAMP:");
        for (int seed = 0; seed < 300; seed += 7) {
            int number = (int) ((seed * 1103515245L + 12345L & 0x7fffffffL) / 65536 % 100);
            if (number > 0) {
                LaughDrum dry = told(BOX_A + "damp " + number + ";seed " + seed + ";");
                dry.years(1);
                due("damp " + number + " by " + number, dry.count(9), 0);
                due("false of it", dry.box(0, 2), 0);
            }
            LaughDrum damp = told(BOX_A + "damp " + (number + 1) + ";seed " + seed + ";");
            damp.years(1);
            due("damp " + (number + 1) + " by " + number, damp.count(9), 1);
            due("false of it", damp.box(0, 2), 1);
        }
        LaughDrum never = told(BOX_A + "damp 0;seed 0;");
        never.years(1);
        due("damp 0 by 0", never.count(9), 0);
        LaughDrum always = told(BOX_A + "damp 100;seed 0;");
        always.years(99);
        due("damp 100", always.count(9), 99);
    }

    private static void sour() {
        says("Terms for promise 15", "each BOX by numbers is more FALSE by E of sour (0 .. 9; 1 without, with an ERROR), 99 at most.");
        byLaw("sour", 0, 2, 0);
        byLaw("sour", 1, 2, 1);
        byLaw("sour", 8, 2, 8);
        byLaw("sour", 9, 2, 9);
        byLaw("sour", 10, 2, 9);
        byLaw("sour", 9999, 2, 9);
        byLaw("sour", -1, 2, 0);
        byLaw("sour", -9999, 2, 0);
        LaughDrum x = told(BOX_A + "box b 0 1 1 1 1 1 1 1 1 1;box c 9 1 1 1 1 1 1 1 1 1;damp 100;");
        LaughDrum error = told(BOX_A + "damp 100;law sour 1 / 0;");
        x.steal(2, true);
        x.years(1);
        error.years(1);
        due("without", x.box(0, 2), 1);
        due("at spring 0", x.box(1, 2), 1);
        due("stolen", x.box(2, 2), 1);
        due("with an error", error.box(0, 2), 1);
        x.years(97);
        due("98", x.box(0, 2), 98);
        x.years(1);
        due("99", x.box(0, 2), 99);
        x.years(1);
        due("99 at most", x.box(0, 2), 99);
        LaughDrum nine = told(BOX_A + "damp 100;law sour 9;");
        nine.years(11);
        due("9 eleven times", nine.box(0, 2), 99);
        nine.years(1);
        due("9 twelve times", nine.box(0, 2), 99);
        LaughDrum eight = told(BOX_A + "damp 100;law sour 8;");
        eight.years(12);
        due("8 twelve times", eight.box(0, 2), 96);
        eight.years(1);
        due("8 thirteen times", eight.box(0, 2), 99);
    }

    private static void nextYear() {
        says("Terms for promise 15", "Then it is the next YEAR.");
        LaughDrum x = told(LONG + "law charm year;law sour year;damp 100;");
        due("year 0", x.count(4), 0);
        x.years(1);
        due("year 1", x.count(4), 1);
        due("all went by in year 0", x.box(0, 4) + x.box(0, 2), 0);
        x.years(1);
        due("year 2", x.count(4), 2);
        due("charm in year 1", x.box(0, 4), 1);
        due("sour in year 1", x.box(0, 2), 1);
        due("without boxes", new LaughDrum().years(3), 3);
    }

    private static long next(long last) {
        return last * 1103515245L + 12345L & 0x7fffffffL;
    }

    private static void numbers() {
        says("Terms for promise 15", "Numbers are the last one (at first the seed) times 1103515245 and 12345, without what is above 31 bits, by 65536.");
        int[] seeds = {0, 1, 12345, 99999};
        for (int seed : seeds) {
            for (int odds = 1; odds <= 99; odds += 14) {
                LaughDrum x = told(BOX_A + "damp " + odds + ";seed " + seed + ";");
                long last = seed;
                int damp = 0;
                for (int year = 1; year <= 120; year++) {
                    last = next(last);
                    damp += last / 65536 % 100 < odds ? 1 : 0;
                    x.years(1);
                    due("seed " + seed + ", damp " + odds + ", by year " + year, x.count(9), damp);
                }
            }
        }
        // seed 0: the first numbers by hand are 0, 21468, 9988, 22117, 3498 and so on
        LaughDrum hand = told(BOX_A + "damp 69;");
        int[] due = {1, 2, 2, 3, 3};
        for (int year = 0; year < due.length; year++) {
            hand.years(1);
            due("by hand, year " + year, hand.count(9), due[year]);
        }
    }

    private static void asItGoes() {
        says("Terms for promise 16", "AS IT GOES: without numbers: it is DAMP, if damp is 50 at least.");
        int[] odds = {0, 1, 49, 50, 51, 99, 100};
        for (int damp : odds) {
            for (int seed = 0; seed < 5; seed++) {
                LaughDrum x = told(LONG + "damp " + damp + ";seed " + seed + ";law charm false;");
                LaughDrum other = told(LONG + "damp " + damp + ";seed " + seed + ";law charm false;");
                due("false in 9 years by damp " + damp, x.ahead(0, 9, 1), damp >= 50 ? 9 : 0);
                due("laughter in 9 years by damp " + damp, x.ahead(0, 9, 2), damp >= 50 ? 36 : 0);
                due("winding by damp " + damp, x.winding(9, 0, 3), damp >= 50 ? 36 : 0);
                due("tried by damp " + damp, x.tried(1, 0, 9), damp >= 50 ? 36 : 0);
                x.years(20);
                other.years(20);
                due("no number was drawn", x.count(9), other.count(9));
            }
        }
        due("lasts by damp 49", told("box a 9 1 1 1 1 1 1 1 1 1;damp 49;law wear false;").lasts(0), -2);
        due("lasts by damp 50", told("box a 9 1 1 1 1 1 1 1 1 1;damp 50;law wear false;").lasts(0), 5);
        due("run down by damp 49", told("box a 9 1 1 1 1 1 1 1 1 1;damp 49;law wear false;").runDown(5), 0);
        due("run down by damp 50", told("box a 9 1 1 1 1 1 1 1 1 1;damp 50;law wear false;").runDown(5), 1);
    }

    private static void wind() {
        says("Promise 12", "A BOX is wound by so many turns 1 .. 99: SPRING then (99 at most);");
        LaughDrum x = told("box a 0 1 1 1 1 1 1 1 1 1;box b 97 1 1 1 1 1 1 1 1 1;box c 0 1 1 1 1 1 1 1 1 1;box d 99 1 1 1 1 1 1 1 1 1;");
        due("1 turn", x.wind(0, 1), 1);
        due("it has it", x.box(0, 0), 1);
        due("97 more", x.wind(0, 97), 98);
        due("to 99", x.wind(0, 1), 99);
        due("98", x.wind(1, 1), 98);
        due("99 at most", x.wind(1, 2), 99);
        due("it is 99", x.box(1, 0), 99);
        due("99 turns", x.wind(2, 99), 99);
        x.years(1);
        due("99 turns of 98", x.wind(2, 99), 99);
        due("no other one is wound", x.box(3, 0), 98);
    }

    private static void windRefused() {
        says("Promise 12", "-2: it is STOLEN, it is 99;");
        LaughDrum x = told("box a 98 1 1 1 1 1 1 1 1 1;box b 99 1 1 1 1 1 1 1 1 1;box c 0 1 1 1 1 1 1 1 1 1;");
        due("it is 99", x.wind(1, 1), -2);
        due("it is 98", x.wind(0, 1), 99);
        due("it is 99 then", x.wind(0, 99), -2);
        x.steal(2, true);
        due("stolen at 0", x.wind(2, 1), -2);
        due("its spring stays", x.box(2, 0), 0);
        due("what can be undone", x.count(12), 2);
        x.steal(2, false);
        due("given back", x.wind(2, 1), 1);
    }

    private static void windNone() {
        says("Promise 12", "NONE: no such ones.");
        LaughDrum x = told("box a 0 1 1 1 1 1 1 1 1 1;box b 99 1 1 1 1 1 1 1 1 1;");
        due("0 turns", x.wind(0, 0), NONE);
        due("100 turns", x.wind(0, 100), NONE);
        due("-1 turns", x.wind(0, -1), NONE);
        due("the least turns", x.wind(0, Integer.MIN_VALUE), NONE);
        due("the most turns", x.wind(0, Integer.MAX_VALUE), NONE);
        due("box -1", x.wind(-1, 1), NONE);
        due("box 2", x.wind(2, 1), NONE);
        due("the most box", x.wind(Integer.MAX_VALUE, 1), NONE);
        due("the least box", x.wind(Integer.MIN_VALUE, 1), NONE);
        due("0 turns of one that is 99", x.wind(1, 0), NONE);
        x.steal(0, true);
        due("100 turns of a stolen one", x.wind(0, 100), NONE);
        due("nothing but the theft to undo", x.count(12), 1);
        due("its spring stays", x.box(0, 0), 0);
        x.steal(0, false);
        due("1 turn", x.wind(0, 1), 1);
        due("98 turns", x.wind(0, 98), 99);
    }

    private static void steal() {
        says("Promise 13", "A BOX is STOLEN from now on, or given back: true;");
        LaughDrum x = told(SIX);
        int[] boxes = {0, 5};
        for (int box : boxes) {
            due("steal " + box, x.steal(box, true), true);
            due("it is", x.box(box, 5), 1);
            due("that one alone", x.count(7), 1);
            x.years(1);
            due("from now on", x.box(box, 5), 1);
            due("give back " + box, x.steal(box, false), true);
            due("it isn't", x.box(box, 5), 0);
        }
    }

    private static void stealRefused() {
        says("Promise 13", "false: no such BOX, it is so.");
        LaughDrum x = told(SIX);
        int[] none = {-1, 6, Integer.MIN_VALUE, Integer.MAX_VALUE};
        for (int box : none) {
            due("steal " + box, x.steal(box, true), false);
            due("give back " + box, x.steal(box, false), false);
        }
        due("give back what isn't stolen", x.steal(5, false), false);
        due("nothing to undo", x.count(12), 0);
        due("steal", x.steal(5, true), true);
        due("steal once more", x.steal(5, true), false);
        due("one to undo", x.count(12), 1);
        due("none told", new LaughDrum().steal(0, true), false);
    }

    private static void tooth() {
        says("Promise 14", "A TOOTH 1 .. 9 of a BOX is MISSING from now on, or set: true;");
        LaughDrum x = told(SIX + "tooth a 9;");
        due("1 is broken", x.tooth(5, 1, true), true);
        due("9 is broken", x.tooth(5, 9, true), true);
        due("they are", x.box(5, 6), 1 << 1 | 1 << 9);
        due("of that one alone", x.box(0, 6), 1 << 9);
        x.years(1);
        due("from now on", x.box(5, 6), 1 << 1 | 1 << 9);
        due("1 is set", x.tooth(5, 1, false), true);
        due("it is", x.box(5, 6), 1 << 9);
        due("one that was told is set", x.tooth(0, 9, false), true);
        due("it is set", x.box(0, 6), 0);
        for (int tooth = 1; tooth <= 9; tooth++) {
            due("of c, " + tooth, x.tooth(2, tooth, true), true);
            due("of d, " + tooth, x.tooth(3, tooth, true), true);
        }
        due("more than twelve by call", x.count(8), 19);
    }

    private static void toothRefused() {
        says("Promise 14", "false: no such ones, it is so.");
        LaughDrum x = told(SIX + "tooth a 9;");
        int[] teeth = {0, 10, -1, 32, 33, 41, Integer.MIN_VALUE, Integer.MAX_VALUE};
        for (int tooth : teeth) {
            due("break " + tooth, x.tooth(0, tooth, true), false);
            due("set " + tooth, x.tooth(0, tooth, false), false);
        }
        int[] boxes = {-1, 6, Integer.MIN_VALUE, Integer.MAX_VALUE};
        for (int box : boxes) {
            due("break of " + box, x.tooth(box, 1, true), false);
            due("set of " + box, x.tooth(box, 1, false), false);
        }
        due("missing already", x.tooth(0, 9, true), false);
        due("set already", x.tooth(0, 8, false), false);
        due("all stays", x.box(0, 6), 1 << 9);
        due("nothing to undo", x.count(12), 0);
        due("set", x.tooth(0, 9, false), true);
        due("set once more", x.tooth(0, 9, false), false);
        due("one to undo", x.count(12), 1);
    }

    private static void years() {
        says("Promise 15", "So many YEARS (0 .. 99) go by: which one it is;");
        LaughDrum x = told("box a 99 1 1 1 1 1 1 1 1 1;damp 100;");
        due("0", x.years(0), 0);
        due("none went by", x.box(0, 3), 0);
        due("99", x.years(99), 99);
        due("99 went by", x.box(0, 3), 99);
        due("damp ones", x.count(9), 99);
        due("1", x.years(1), 100);
        due("0 then", x.years(0), 100);
        due("which one it is", x.count(4), 100);
    }

    private static void yearsRefused() {
        says("Promise 15", "NONE, and none does: no such number, behind 9900.");
        LaughDrum x = told("box a 99 1 1 1 1 1 1 1 1 1;law wear 0;");
        int[] none = {-1, 100, Integer.MIN_VALUE, Integer.MAX_VALUE};
        for (int n : none) {
            due("years(" + n + ")", x.years(n), NONE);
        }
        due("none did", x.count(4) + x.box(0, 3), 0);
        for (int i = 1; i <= 99; i++) {
            due("years " + i, x.years(99), 99 * i);
        }
        due("98 of the last 99", x.years(98), 9899);
        x.steal(0, true);
        due("two behind 9899", x.years(2), NONE);
        due("99 behind 9899", x.years(99), NONE);
        due("none did", x.count(4), 9899);
        due("still to undo", x.count(12), 1);
        x.undo();
        due("one behind 9899", x.years(1), 9900);
        due("it went by", x.box(0, 3), 9900);
        due("one behind 9900", x.years(1), NONE);
        due("99 behind 9900", x.years(99), NONE);
        due("none behind 9900", x.years(0), 9900);
        due("all stays", x.box(0, 3), 9900);
        due("laughter of all these", x.box(0, 4), 8 * 9900);
    }

    private static void ahead() {
        says("Promise 16", "In n YEARS 0 .. 99 as it goes, what 0: SPRING of a BOX then, 1: FALSE then, 2: LAUGHTER more, 3: how often PLAYED more.");
        LaughDrum x = told("box a 60 2 1 2 3 4 0 5 6 7;box b 0 1 1 1 1 1 1 1 1 1;box c 9 1 1 1 1 1 1 1 1 1;damp 50;seed 3;");
        x.steal(2, true);
        x.years(5);
        int isFalse = x.box(0, 2);
        int[] now = {55, isFalse, 0, 0};
        int[] one = {54, isFalse + 1, 7, 1};
        int[] many = {0, 99, 7 * 55, 55};
        for (int what = 0; what <= 3; what++) {
            due("in 0 years, " + what, x.ahead(0, 0, what), now[what]);
            due("in 1 year, " + what, x.ahead(0, 1, what), one[what]);
            due("in 99 years, " + what, x.ahead(0, 99, what), many[what]);
        }
        due("at spring 0, spring", x.ahead(1, 9, 0), 0);
        due("at spring 0, false", x.ahead(1, 9, 1), isFalse + 9);
        due("at spring 0, laughter", x.ahead(1, 9, 2), 0);
        due("stolen, spring", x.ahead(2, 9, 0), 9);
        due("stolen, false", x.ahead(2, 9, 1), isFalse + 9);
        due("stolen, played", x.ahead(2, 9, 3), 0);
        due("nothing went by", x.count(4), 5);
        due("nothing was played", x.box(0, 3), 5);
        LaughDrum y = told(LONG + "law charm year;law wear year = 5;");
        y.years(3);
        due("laughter by the years ahead", y.ahead(0, 3, 2), 3 + 4 + 5);
        due("wear ahead of year 5", y.ahead(0, 2, 0), 99);
        due("wear in year 5", y.ahead(0, 3, 0), 98);
        for (int i = 0; i < 99; i++) {
            y.years(99);
        }
        y.years(96);
        due("behind 9900 it goes on", y.ahead(0, 99, 3), 99);
    }

    private static void aheadNone() {
        says("Promise 16", "NONE: no such ones.");
        LaughDrum x = told(SIX);
        within("box", box -> x.ahead(box, 0, 0), 0, 5, NONE);
        within("n", n -> x.ahead(0, n, 0), 0, 99, NONE);
        within("what", what -> x.ahead(0, 0, what), 0, 3, NONE);
    }

    private static void lastsOfTerms() {
        says("Terms for promise 26", "LASTS of a BOX: in how many YEARS as it goes, 999 at most, SPRING is 0 (0: it is).");
        due("0: it is", told("box a 0 1 1 1 1 1 1 1 1 1;").lasts(0), 0);
        due("1", told("box a 1 1 1 1 1 1 1 1 1 1;").lasts(0), 1);
        due("99", told(LONG).lasts(0), 99);
        due("9 a year", told("box a 10 1 1 1 1 1 1 1 1 1;law wear 9;").lasts(0), 2);
        due("998", told("box a 1 1 1 1 1 1 1 1 1 1;law wear plays >= 998;").lasts(0), 998);
        due("999", told("box a 1 1 1 1 1 1 1 1 1 1;law wear plays >= 999;").lasts(0), 999);
        due("999 by the year", told("box a 1 1 1 1 1 1 1 1 1 1;law wear year = 998;").lasts(0), 999);
        due("1000 by the year", told("box a 1 1 1 1 1 1 1 1 1 1;law wear year = 999;").lasts(0), -2);
        due("damp as it goes", told("box a 9 1 1 1 1 1 1 1 1 1;damp 50;law wear false;").lasts(0), 5);
        due("no damp as it goes", told("box a 9 1 1 1 1 1 1 1 1 1;damp 49;law wear not false;").lasts(0), 9);
        LaughDrum x = told("box a 0 1 1 1 1 1 1 1 1 1;box b 2 1 1 1 1 1 1 1 1 1;law wear year >= 9;");
        due("from year 0", x.lasts(1), 11);
        x.years(4);
        due("from year 4", x.lasts(1), 7);
        x.steal(0, true);
        due("stolen at 0", x.lasts(0), 0);
        due("nothing went by", x.count(4), 4);
    }

    private static void lasts() {
        says("Promise 26", "LASTS; -2: not by then; NONE: no such BOX.");
        due("by then", told("box a 1 1 1 1 1 1 1 1 1 1;law wear plays >= 999;").lasts(0), 999);
        due("not by then", told("box a 1 1 1 1 1 1 1 1 1 1;law wear plays >= 1000;").lasts(0), -2);
        due("never", told("box a 1 1 1 1 1 1 1 1 1 1;law wear 0;").lasts(0), -2);
        LaughDrum x = told(SIX);
        x.steal(3, true);
        due("stolen", x.lasts(3), -2);
        within("box", box -> x.lasts(box), 0, 5, NONE);
        due("none told", new LaughDrum().lasts(0), NONE);
    }

    private static void merriest() {
        says("Promise 35", "The BOX with most LAUGHTER so far, the first of several; -2: none has any.");
        LaughDrum x = told("box a 9 1 0 0 0 0 0 0 0 0;box b 2 1 2 2 2 0 0 0 0 0;box c 2 1 3 3 3 0 0 0 0 0;box d 3 1 3 3 0 0 0 0 0 0;");
        due("no year went by", x.merriest(), -2);
        x.years(1);
        due("the first of several", x.merriest(), 1);
        x.steal(1, true);
        x.years(1);
        due("one has more", x.merriest(), 2);
        x.steal(1, false);
        x.years(1);
        due("several again", x.merriest(), 1);
        LaughDrum six = told(drums("11100000", "11000000", "11000000", "10000000", "10000000", "11100000"));
        six.years(1);
        due("the first one of six", six.merriest(), 0);
        six.steal(0, true);
        six.wind(5, 1);
        six.years(1);
        due("the last one of six", six.merriest(), 5);
        text(six, drums("10000000", "00000000"));
        six.years(1);
        due("told in an earlier text alone", six.merriest(), 0);
        LaughDrum none = told("box a 9 1 0 0 0 0 0 0 0 0;box b 9 1 0 0 0 0 0 0 0 0;");
        none.years(9);
        due("years without laughter", none.merriest(), -2);
        due("none told", new LaughDrum().merriest(), -2);
        LaughDrum last = told("box a 9 1 0 0 0 0 0 0 0 0;box b 9 1 0 0 0 0 0 0 0 1;");
        last.years(1);
        due("a single laugh", last.merriest(), 1);
    }

    private static void silent() {
        says("Promise 36", "BOXES (bits) that aren't let go in this YEAR: STOLEN, or SPRING is 0.");
        LaughDrum x = told(SIX.replace("box c 1", "box c 0"));
        due("at spring 0", x.silent(), 4);
        x.steal(0, true);
        due("stolen", x.silent(), 5);
        x.steal(2, true);
        due("both", x.silent(), 5);
        x.steal(5, true);
        due("the last one", x.silent(), 37);
        x.years(1);
        due("run down", x.silent(), 63);
        x.wind(1, 1);
        due("wound", x.silent(), 61);
        due("none told", new LaughDrum().silent(), 0);
    }

    private static void runDown() {
        says("Promise 37", "BOXES (bits) whose SPRING is 0 in n YEARS 0 .. 99 as it goes, and isn't now; NONE: no such n.");
        LaughDrum x = told("box a 5 1 1 1 1 1 1 1 1 1;box b 3 1 1 1 1 1 1 1 1 1;box c 0 1 1 1 1 1 1 1 1 1;box d 99 1 1 1 1 1 1 1 1 1;box e 1 1 1 1 1 1 1 1 1 1;");
        due("in 0", x.runDown(0), 0);
        due("in 1", x.runDown(1), 16);
        due("in 2", x.runDown(2), 16);
        due("in 3", x.runDown(3), 18);
        due("in 4", x.runDown(4), 18);
        due("in 5", x.runDown(5), 19);
        due("in 98", x.runDown(98), 19);
        due("in 99", x.runDown(99), 27);
        x.steal(0, true);
        due("stolen", x.runDown(99), 26);
        x.years(1);
        due("run down by now", x.runDown(99), 10);
        within("n", n -> x.runDown(n), 0, 99, NONE);
        due("none told", new LaughDrum().runDown(99), 0);
        due("damp as it goes", told("box a 9 1 1 1 1 1 1 1 1 1;damp 50;law wear false;").runDown(5), 1);
        due("damp as it goes, a year less", told("box a 9 1 1 1 1 1 1 1 1 1;damp 50;law wear false;").runDown(4), 0);
        due("no damp as it goes", told("box a 9 1 1 1 1 1 1 1 1 1;damp 49;law wear false;").runDown(99), 0);
        LaughDrum six = told(SIX);
        due("six", six.runDown(1), 63);
        text(six, BOX_A);
        due("told in an earlier text alone", six.runDown(1), 1);
    }

    private static int byHand(int seed, int n, int odds, int isFalse) {
        long last = seed;
        int times = 0;
        for (int time = 0; time < 10; time++) {
            int damp = 0;
            for (int year = 0; year < n; year++) {
                last = next(last);
                damp += last / 65536 % 100 < odds ? 1 : 0;
            }
            times += damp >= isFalse ? 1 : 0;
        }
        return times;
    }

    private static void chance() {
        says("Promise 42", "In how many of ten times drawn (numbers from a seed 0 .. 2147483647 on, one behind another; n 1 .. 99 YEARS from now) a BOX is so FALSE 0 .. 99 at least then; NONE: no such ones.");
        int[] seeds = {0, 1, 65535, 2147483646, 2147483647};
        int[] ns = {1, 2, 7, 98, 99};
        for (int seed : seeds) {
            LaughDrum each = told(TWO + "damp 60;seed 9;");
            for (int n : ns) {
                for (int isFalse = 0; isFalse <= 99; isFalse += 3) {
                    due("chance(" + seed + ", " + n + ", 0, " + isFalse + ")", each.chance(seed, n, 0, isFalse), byHand(seed, n, 60, isFalse));
                }
            }
        }
        LaughDrum x = told(TWO + "damp 60;seed 9;");
        due("seed 0", x.chance(0, 1, 0, 0), 10);
        due("the most seed", x.chance(2147483647, 1, 0, 0), 10);
        due("seed -1", x.chance(-1, 1, 0, 0), NONE);
        due("the least seed", x.chance(Integer.MIN_VALUE, 1, 0, 0), NONE);
        within("n", n -> x.chance(0, n, 0, 0), 1, 99, NONE);
        within("box", box -> x.chance(0, 1, box, 0), 0, 1, NONE);
        within("false", isFalse -> x.chance(0, 1, 0, isFalse), 0, 99, NONE);
        LaughDrum always = told(TWO + "damp 100;law sour year;");
        always.years(2);
        due("so false now", always.box(0, 2), 1);
        due("by the years from now", always.chance(0, 3, 0, 1 + 2 + 3 + 4), 10);
        due("not more", always.chance(0, 3, 0, 1 + 2 + 3 + 4 + 1), 0);
        LaughDrum most = told(TWO + "damp 100;law sour 9;");
        due("99", most.chance(0, 11, 0, 99), 10);
        due("99 by ten years", most.chance(0, 10, 0, 99), 0);
        due("never damp", told(TWO).chance(0, 99, 0, 1), 0);
        LaughDrum other = told(TWO + "damp 60;seed 9;");
        x.years(30);
        other.years(30);
        due("no number of its own was drawn", x.count(9), other.count(9));
    }

    private static void triedOfTerms() {
        says("Terms for promise 43", "TRIED for n YEARS as it goes: LAUGHTER more: 0 no DAMP, 1 none is STOLEN, 2 BOX i isn't there, 3 no TOOTH is MISSING, 4 all SPRINGS are 99.");
        LaughDrum x = told("box a 3 1 1 1 1 1 0 0 0 0;box b 3 1 2 2 0 0 0 0 0 0;box c 99 1 3 3 3 0 0 0 0 0;"
            + "tooth b 2;damp 50;law charm (teeth = 0) * (pins + false);");
        x.steal(0, true);
        // a is stolen, b misses a tooth, c laughs 3 and one more each year
        due("no damp", x.tried(0, 0, 4), 12);
        due("none is stolen", x.tried(1, 0, 4), 3 + 4 + 5 + 6 + 4 + 5 + 6);
        due("without a", x.tried(2, 0, 4), 18);
        due("without b", x.tried(2, 1, 4), 18);
        due("without c", x.tried(2, 2, 4), 0);
        due("no tooth is missing", x.tried(3, 0, 4), 18 + 2 + 3 + 4);
        x.tooth(1, 2, false);
        due("all springs are 99", x.tried(4, 0, 4), 18 + 2 + 3 + 4 + 5);
        due("nothing has changed", x.box(0, 5) * 100 + x.box(1, 0), 103);
        LaughDrum run = told("box a 0 1 1 0 0 0 0 0 0 0;box b 98 1 1 0 0 0 0 0 0 0;");
        due("99 of 0 and of 98", run.tried(4, 0, 99), 198);
        due("as it is", run.tried(1, 0, 99), 98);
        due("as it is, no damp", run.tried(0, 0, 99), 98);
        due("as it is, without a", run.tried(2, 0, 99), 98);
        due("as it is, without b", run.tried(2, 1, 99), 0);
        due("as it is, all teeth", run.tried(3, 0, 99), 98);
        run.steal(1, true);
        due("stolen, springs or not", run.tried(4, 0, 99), 99);
        due("stolen, damp or not", run.tried(0, 0, 99), 0);
        due("stolen, teeth or not", run.tried(3, 0, 99), 0);
        due("none is stolen, spring 0", run.tried(1, 0, 99), 98);
        LaughDrum damp = told("box a 9 1 1 1 1 1 1 1 1 1;damp 50;law charm false * 10;tooth a 1;");
        int[] byDamp = {0, 30, 0, 30, 30};
        for (int what = 0; what <= 4; what++) {
            due("damp by " + what, damp.tried(what, 0, 3), byDamp[what]);
        }
        LaughDrum dry = told("box a 9 1 1 1 1 1 1 1 1 1;damp 49;law charm false * 10;tooth a 1;");
        for (int what = 0; what <= 4; what++) {
            due("no damp by " + what, dry.tried(what, 0, 3), 0);
        }
        LaughDrum teeth = told("box a 9 1 1 2 3 0 0 0 0 0;tooth a 1;tooth a 2;tooth a 3;");
        due("none is heard", teeth.tried(1, 0, 2), 0);
        due("all three are heard", teeth.tried(3, 0, 2), 6);
        teeth.years(1);
        teeth.tooth(0, 1, false);
        teeth.years(1);
        due("more of laughter, not all of it", teeth.tried(1, 0, 2), 2);
    }

    private static void tried() {
        says("Promise 43", "TRIED (n 0 .. 99); NONE: no such ones (i 0 of all but 2).");
        LaughDrum x = told(SIX.replace(" 1 1 1 1 1 1 1 1 1 1;", " 99 1 1 0 0 0 0 0 0 0;"));
        due("n 0", x.tried(0, 0, 0), 0);
        due("n 1", x.tried(0, 0, 1), 6);
        due("n 99", x.tried(0, 0, 99), 594);
        within("what", what -> x.tried(what, 0, 1), 0, 4, NONE);
        within("box of 2", i -> x.tried(2, i, 1), 0, 5, NONE);
        for (int what = 0; what <= 4; what++) {
            int asked = what;
            within("n of " + what, n -> x.tried(asked, 0, n), 0, 99, NONE);
            if (what != 2) {
                within("i of " + what, i -> x.tried(asked, i, 1), 0, 0, NONE);
            }
        }
        LaughDrum none = new LaughDrum();
        due("none told", none.tried(1, 0, 9), 0);
        due("none told, box 0 isn't there", none.tried(2, 0, 9), NONE);
    }
}
