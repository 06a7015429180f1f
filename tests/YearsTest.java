/** Promises 15, 16, 26, 35 to 37, 42, 43, 47: years, ahead, lasts, merriest, silent, runDown, chance, tried, count. */
final class YearsTest {
    private static final String TWO = "box a 5 2 1 2 3 4 0 5 6 7;box b 3 3 1 1 0 0 0 0 0 0;";

    public static void main(String[] args) {
        withoutLaws();
        numbers();
        dampByOdds();
        lawsAreHeld();
        lawsWithErrors();
        playsAndYear();
        bounds();
        ahead();
        lasts();
        merriestAndSilent();
        runDown();
        chance();
        tried();
        count();
        Check.end();
    }

    private static void withoutLaws() {
        LaughDrum x = Check.told(TWO + "tooth a 7;");
        Check.due("years(0)", x.years(0), 0);
        Check.due("years(4)", x.years(4), 4);
        Check.due("spring", x.box(0, 0), 1);
        Check.due("laughter", x.box(0, 4), 24);
        Check.due("played", x.box(0, 3), 4);
        Check.due("spring of b", x.box(1, 0), 0);
        Check.due("laughter of b", x.box(1, 4), 6);
        Check.due("played of b", x.box(1, 3), 3);
        Check.due("false", x.box(0, 2), 0);
        x.steal(0, true);
        Check.due("years(2)", x.years(2), 6);
        Check.due("stolen: spring", x.box(0, 0), 1);
        Check.due("stolen: played", x.box(0, 3), 4);
    }

    /** Which of the first years are damp, by the numbers as the document tells them. */
    private static void numbers() {
        LaughDrum x = Check.told(TWO + "damp 40;seed 12345;");
        long last = 12345;
        int damp = 0;
        for (int i = 1; i <= 60; i++) {
            last = (last * 1103515245L + 12345L) & 0x7fffffffL;
            damp += last / 65536 % 100 < 40 ? 1 : 0;
            x.years(1);
            Check.due("damp years of " + i, x.count(9), damp);
            Check.due("false by " + i, x.box(1, 2), damp);
        }
    }

    private static void dampByOdds() {
        LaughDrum one = Check.told("box a 99 1 1 1 1 1 1 1 1 1;damp 1;seed 0;");
        one.years(1);
        Check.due("odds 1, number 0", one.count(9), 1);
        one.years(2);
        Check.due("odds 1, later ones", one.count(9), 1);
        int[] none = {0, 100};
        for (int odds : none) {
            LaughDrum x = Check.told(TWO + "damp " + odds + ";seed 7;");
            x.years(5);
            Check.due("damp years of odds " + odds, x.count(9), odds / 20);
            Check.due("false of odds " + odds, x.box(0, 2), odds / 20);
        }
        LaughDrum y = Check.told(TWO + "damp 100;");
        y.steal(1, true);
        y.years(50);
        Check.due("stolen ones are damp, too", y.box(1, 2), 50);
        y.years(99);
        Check.due("false at most 99", y.box(0, 2), 99);
        Check.due("damp years go on", y.count(9), 149);
    }

    private static void lawsAreHeld() {
        LaughDrum x = Check.told(TWO + "damp 100;law wear 0 - 3;law sour 10;law charm 100;");
        x.years(1);
        Check.due("wear at least 0", x.box(0, 0), 5);
        Check.due("sour at most 9", x.box(0, 2), 9);
        Check.due("charm at most 99", x.box(0, 4), 99);
        LaughDrum y = Check.told("box a 20 1 1 1 1 1 1 1 1 1;damp 100;law wear 10;law sour 0 - 1;law charm 0 - 1;");
        y.years(1);
        Check.due("wear at most 9", y.box(0, 0), 11);
        Check.due("sour at least 0", y.box(0, 2), 0);
        Check.due("charm at least 0", y.box(0, 4), 0);
        y.years(2);
        Check.due("spring at least 0", y.box(0, 0), 0);
        Check.due("played thrice", y.box(0, 3), 3);
    }

    private static void lawsWithErrors() {
        LaughDrum x = Check.told(TWO + "damp 100;law wear 1 / 0;law sour 1 / 0;law charm 1 / 0;");
        x.years(1);
        Check.due("wear with an error", x.box(0, 0), 4);
        Check.due("sour with an error", x.box(0, 2), 1);
        Check.due("charm with an error", x.box(0, 4), 7);
    }

    private static void playsAndYear() {
        LaughDrum x = Check.told("box a 30 1 1 1 1 1 1 1 1 1;damp 100;law charm plays * 10 + year;law wear plays;law sour plays + year;");
        x.years(1);
        Check.due("charm counts this play", x.box(0, 4), 10);
        Check.due("wear counts this play", x.box(0, 0), 29);
        Check.due("sour of year 0", x.box(0, 2), 1);
        x.years(1);
        Check.due("charm of year 1", x.box(0, 4), 31);
        Check.due("wear of year 1", x.box(0, 0), 27);
        Check.due("sour of year 1", x.box(0, 2), 4);
        LaughDrum y = Check.told("box a 9 1 1 1 1 1 1 1 1 1;law charm spring;law wear spring;");
        y.years(1);
        Check.due("charm by the spring ahead of wear", y.box(0, 4), 9);
        Check.due("wear by the spring", y.box(0, 0), 0);
    }

    private static void bounds() {
        LaughDrum x = Check.told(TWO);
        Check.due("years(-1)", x.years(-1), -1);
        Check.due("years(100)", x.years(100), -1);
        for (int i = 1; i <= 100; i++) {
            Check.due("years " + i, x.years(99), 99 * i);
        }
        Check.due("behind 9900", x.years(1), -1);
        Check.due("none went by", x.count(4), 9900);
        Check.due("none go by", x.years(0), 9900);
        Check.due("ahead of it", x.ahead(0, 99, 3), 0);
    }

    private static void ahead() {
        LaughDrum x = Check.told(TWO + "damp 50;");
        x.years(1);
        int isFalse = x.box(0, 2);
        Check.due("spring", x.ahead(0, 2, 0), 2);
        Check.due("damp as it goes", x.ahead(0, 9, 1), isFalse + 9);
        Check.due("laughter more", x.ahead(0, 9, 2), 28);
        Check.due("played more", x.ahead(0, 9, 3), 4);
        Check.due("in 0 years", x.ahead(0, 0, 0), 4);
        Check.due("in 0 years no laughter", x.ahead(0, 0, 2), 0);
        Check.due("nothing went by", x.count(4), 1);
        Check.due("n 100", x.ahead(0, 100, 0), -1);
        Check.due("n -1", x.ahead(0, -1, 0), -1);
        Check.due("what 4", x.ahead(0, 1, 4), -1);
        Check.due("what -1", x.ahead(0, 1, -1), -1);
        Check.due("box 2", x.ahead(2, 1, 0), -1);
        Check.due("box -1", x.ahead(-1, 1, 0), -1);
        Check.due("49 is dry", Check.told(TWO + "damp 49;").ahead(0, 9, 1), 0);
        Check.due("year of a law", Check.told(TWO + "law charm year;").ahead(0, 4, 2), 6);
    }

    private static void lasts() {
        LaughDrum x = Check.told("box a 99 1 1 1 1 1 1 1 1 1;box b 0 1 1 1 1 1 1 1 1 1;law wear year / 10 = year / 10 and year - year / 10 * 10 = 9;");
        Check.due("once in ten years", x.lasts(0), 990);
        Check.due("it is", x.lasts(1), 0);
        x.years(1);
        Check.due("a year later", x.lasts(0), 989);
        x.steal(0, true);
        Check.due("stolen", x.lasts(0), -2);
        x.steal(1, true);
        Check.due("stolen at 0", x.lasts(1), 0);
        Check.due("box 2", x.lasts(2), -1);
        Check.due("box -1", x.lasts(-1), -1);
        Check.due("never", Check.told("box a 1 1 1 1 1 1 1 1 1 1;law wear 0;").lasts(0), -2);
        Check.due("999", Check.told("box a 1 1 1 1 1 1 1 1 1 1;law wear plays >= 999;").lasts(0), 999);
        Check.due("1000", Check.told("box a 1 1 1 1 1 1 1 1 1 1;law wear plays >= 1000;").lasts(0), -2);
    }

    private static void merriestAndSilent() {
        LaughDrum x = Check.told("box a 1 1 1 1 0 0 0 0 0 0;box b 2 1 2 2 2 0 0 0 0 0;box c 2 1 3 3 3 0 0 0 0 0;box d 0 1 3 3 3 3 0 0 0 0;");
        Check.due("none has any", x.merriest(), -2);
        Check.due("without spring", x.silent(), 8);
        x.years(1);
        Check.due("the first of several", x.merriest(), 1);
        Check.due("a has run down", x.silent(), 9);
        x.steal(1, true);
        Check.due("stolen", x.silent(), 11);
        x.years(1);
        Check.due("c has more", x.merriest(), 2);
        Check.due("all", x.silent(), 15);
    }

    private static void runDown() {
        LaughDrum x = Check.told(TWO + "box c 0 1 1 1 1 1 1 1 1 1;");
        Check.due("in 0", x.runDown(0), 0);
        Check.due("in 2", x.runDown(2), 0);
        Check.due("in 3", x.runDown(3), 2);
        Check.due("in 5", x.runDown(5), 3);
        x.steal(0, true);
        Check.due("stolen", x.runDown(99), 2);
        x.years(2);
        Check.due("at spring 1", x.runDown(1), 2);
        Check.due("in 100", x.runDown(100), -1);
        Check.due("in -1", x.runDown(-1), -1);
    }

    private static void chance() {
        LaughDrum x = Check.told(TWO + "damp 60;");
        long last = 2147483647L;
        int times = 0;
        for (int i = 0; i < 10; i++) {
            int isFalse = 0;
            for (int year = 0; year < 7; year++) {
                last = (last * 1103515245L + 12345L) & 0x7fffffffL;
                isFalse += last / 65536 % 100 < 60 ? 1 : 0;
            }
            times += isFalse >= 4 ? 1 : 0;
        }
        Check.due("chance by hand", x.chance(2147483647, 7, 0, 4), times);
        Check.due("at least 0", x.chance(5, 99, 1, 0), 10);
        Check.due("too false", x.chance(5, 99, 1, 99), 0);
        Check.due("seed -1", x.chance(-1, 7, 0, 4), -1);
        Check.due("n 0", x.chance(0, 0, 0, 4), -1);
        Check.due("n 100", x.chance(0, 100, 0, 4), -1);
        Check.due("box 2", x.chance(0, 1, 2, 4), -1);
        Check.due("box -1", x.chance(0, 1, -1, 4), -1);
        Check.due("false 100", x.chance(0, 1, 0, 100), -1);
        Check.due("false -1", x.chance(0, 1, 0, -1), -1);
        Check.due("always damp", Check.told(TWO + "damp 100;").chance(0, 9, 0, 9), 10);
        Check.due("always damp, not more", Check.told(TWO + "damp 100;").chance(0, 9, 0, 10), 0);
        Check.due("never damp", Check.told(TWO).chance(0, 9, 0, 1), 0);
        Check.due("nothing went by", x.count(4), 0);
        LaughDrum y = Check.told(TWO + "damp 100;law sour year;");
        y.years(2);
        Check.due("false by the years ahead", y.chance(0, 3, 0, 1 + 2 + 3 + 4), 10);
        Check.due("not more by them", y.chance(0, 3, 0, 1 + 2 + 3 + 4 + 1), 0);
    }

    private static void tried() {
        LaughDrum x = Check.told("box a 3 1 1 1 1 1 0 0 0 0;box b 3 1 2 2 0 0 0 0 0 0;box c 99 1 3 3 3 0 0 0 0 0;"
            + "tooth b 2;damp 50;law charm (teeth = 0) * (pins + false);");
        x.steal(0, true);
        // a is stolen, b misses a tooth, c laughs 3 and one more each year
        Check.due("no damp", x.tried(0, 0, 4), 12);
        Check.due("none stolen", x.tried(1, 0, 4), 3 + 4 + 5 + 6 + 4 + 5 + 6);
        Check.due("without a", x.tried(2, 0, 4), 18);
        Check.due("without c", x.tried(2, 2, 4), 0);
        Check.due("no tooth missing", x.tried(3, 0, 4), 18 + 2 + 3 + 4);
        x.tooth(1, 2, false);
        Check.due("all springs 99", x.tried(4, 0, 4), 18 + 2 + 3 + 4 + 5);
        Check.due("n 0", x.tried(0, 0, 0), 0);
        Check.due("n 100", x.tried(0, 0, 100), -1);
        Check.due("n -1", x.tried(0, 0, -1), -1);
        Check.due("what 5", x.tried(5, 0, 1), -1);
        Check.due("what -1", x.tried(-1, 0, 1), -1);
        Check.due("i of 0", x.tried(0, 1, 1), -1);
        Check.due("i of 4", x.tried(4, -1, 1), -1);
        Check.due("box 3", x.tried(2, 3, 1), -1);
        Check.due("box -1", x.tried(2, -1, 1), -1);
        Check.due("nothing has changed", x.box(0, 5), 1);
    }

    private static void count() {
        LaughDrum x = Check.told(TWO + "tooth a 1;tooth b 1;kin a b;guest g 1 1;damp 100;law wear 1 + 1;");
        x.years(2);
        x.tooth(0, 2, true);
        x.steal(1, true);
        x.find(0, 0, true);
        x.find(1, 0, true);
        x.strike(0);
        x.known(2);
        int[] due = {2, 1, 1, 3, 2, 4, 12, 1, 3, 2, 3, 2, 2};
        for (int what = 0; what < due.length; what++) {
            Check.due("count(" + what + ")", x.count(what), due[what]);
        }
        Check.due("count(13)", x.count(13), -1);
        Check.due("count(-1)", x.count(-1), -1);
        x.known(-1);
        Check.due("known by all", x.count(11), 3);
    }
}
