import java.math.BigInteger;

/** What the document says of how much a text may tell, and of its faults. */
final class SaysFaults extends Check {
    private static final String BOX_A = SaysText.BOX_A;
    private static final String BOX_B = SaysText.BOX_B;
    private static final String SIX = SaysText.SIX;
    private static final String[] ONE_KNOT_EACH = {"+", "-", "*", "/", "<", "<=", "=", "<>", ">=", ">", " and ", " or "};

    static void all() {
        test(SaysFaults::boxes);
        test(SaysFaults::springs);
        test(SaysFaults::slows);
        test(SaysFaults::pins);
        test(SaysFaults::teeth);
        test(SaysFaults::teethOnce);
        test(SaysFaults::kin);
        test(SaysFaults::kinUnlike);
        test(SaysFaults::guests);
        test(SaysFaults::waitsAndDegrees);
        test(SaysFaults::damp);
        test(SaysFaults::seed);
        test(SaysFaults::numbered);
        test(SaysFaults::kindsOfNames);
        test(SaysFaults::firstAlongTheText);
        test(SaysFaults::tokens);
        test(SaysFaults::cannotStand);
        test(SaysFaults::moreMustCome);
        test(SaysFaults::numbersBeyond);
        test(SaysFaults::seventhAndSoOn);
        test(SaysFaults::ninthOpen);
        test(SaysFaults::knots);
        test(SaysFaults::kindsOfKnots);
        test(SaysFaults::nameTwice);
        test(SaysFaults::toothTwice);
        test(SaysFaults::kinTwice);
        test(SaysFaults::dampAndSeedTwice);
        test(SaysFaults::lawTwice);
        test(SaysFaults::notTold);
        test(SaysFaults::withItself);
    }

    private static void boxes() {
        says("Terms for promise 3", "BOXES, at most 6:");
        due("six", told(SIX).count(0), 6);
        due("none", told("").count(0), 0);
        marked(SIX + "^box g 1 1 1 1 1 1 1 1 1 1;", 2);
    }

    private static void springs() {
        says("Terms for promise 3", "SPRING 0 .. 99,");
        due("0", told("box a 0 1 1 1 1 1 1 1 1 1;").box(0, 0), 0);
        due("99", told("box a 99 1 1 1 1 1 1 1 1 1;").box(0, 0), 99);
        marked("box a ^100 1 1 1 1 1 1 1 1 1;", 2);
        marked("box a ^-1 1 1 1 1 1 1 1 1 1;", 1);
    }

    private static void slows() {
        says("Terms for promise 3", "SLOW 1 .. 9,");
        due("1", told("box a 1 1 1 1 1 1 1 1 1 1;").box(0, 1), 1);
        due("9", told("box a 1 9 1 1 1 1 1 1 1 1;").box(0, 1), 9);
        marked("box a 1 ^0 1 1 1 1 1 1 1 1;", 2);
        marked("box a 1 ^10 1 1 1 1 1 1 1 1;", 2);
    }

    private static void pins() {
        says("Terms for promise 3", "then eight PINS 0 .. 9 (0: none).");
        for (int k = 0; k < 8; k++) {
            String ahead = "box a 1 1" + " 4".repeat(k);
            String behind = " 4".repeat(7 - k) + ";";
            due("0 at " + k, told(ahead + " 0" + behind).pin(0, k), 0);
            due("none is heard at " + k, told(ahead + " 0" + behind).heard(0, k), 0);
            due("9 at " + k, told(ahead + " 9" + behind).pin(0, k), 9);
            marked(ahead + " ^10" + behind, 2);
        }
        marked("box a 1 1 1 1 1 1 1 1 1^;", 1);
        marked("box a 1 1 1 1 1 1 1 1 1 1 ^1;", 1);
    }

    private static void teeth() {
        says("Terms for promise 3", "tooth: of a BOX the TOOTH 1 .. 9 is MISSING");
        due("1", told(BOX_A + "tooth a 1;").box(0, 6), 1 << 1);
        due("9", told(BOX_A + "tooth a 9;").box(0, 6), 1 << 9);
        due("of that box alone", told(BOX_A + BOX_B + "tooth b 9;").box(0, 6), 0);
        marked(BOX_A + "tooth a ^0;", 2);
        marked(BOX_A + "tooth a ^10;", 2);
    }

    private static void teethOnce() {
        says("Terms for promise 3", "(each of both once; at most 12 in all).");
        told(BOX_A + BOX_B + "tooth a 1;tooth b 1;tooth a 2;");
        marked(BOX_A + BOX_B + "tooth a 1;tooth b 1;tooth a ^1;", 3);
        String twelve = SIX + SaysText.TWELVE_TEETH;
        due("twelve", told(twelve).count(8), 12);
        marked(twelve + "^tooth b 4;", 2);
        String spread = SIX + "tooth a 1;tooth b 1;tooth c 1;tooth d 1;tooth e 1;tooth f 1;";
        due("twelve of six", told(spread + spread.substring(SIX.length()).replace('1', '2')).count(8), 12);
        marked(spread + spread.substring(SIX.length()).replace('1', '2') + "^tooth a 3;", 2);
    }

    private static void kin() {
        says("Terms for promise 3", "KIN, at most 9:");
        due("nine", told(SIX + SaysText.NINE_KIN).count(1), 9);
        marked(SIX + SaysText.NINE_KIN + "^kin c d;", 2);
    }

    private static void kinUnlike() {
        says("Terms for promise 3", "of two unlike BOXES (each two once, either way).");
        due("either way", told(BOX_A + BOX_B + "kin b a;").kin(0, 1), 1);
        due("either way round", told(BOX_A + BOX_B + "kin b a;").kin(1, 0), 1);
        told(SIX + "kin a b;kin a c;kin c b;");
        marked(BOX_A + BOX_B + "kin a ^a;", 5);
        marked(BOX_A + BOX_B + "kin a b;kin a ^b;", 3);
        marked(BOX_A + BOX_B + "kin a b;kin b ^a;", 3);
    }

    private static void guests() {
        says("Terms for promise 3", "GUESTS, at most 5:");
        due("five", told(SaysText.FIVE_GUESTS).count(2), 5);
        marked(SaysText.FIVE_GUESTS + "^guest f 1 1;", 2);
    }

    private static void waitsAndDegrees() {
        says("Terms for promise 3", "WAIT 0 .. 99, DEGREE 0 .. 9.");
        LaughDrum x = told("guest g 0 9;guest h 99 0;");
        due("wait 0", x.guest(0, 0), 0);
        due("degree 9", x.guest(0, 1), 9);
        due("wait 99", x.guest(1, 0), 99);
        due("degree 0", x.guest(1, 1), 0);
        marked("guest g ^100 0;", 2);
        marked("guest g 99 ^10;", 2);
    }

    private static void damp() {
        says("Terms for promise 3", "damp: of a hundred 0 .. 100 (0).");
        for (int seed = 0; seed < 40; seed++) {
            LaughDrum never = told(BOX_A + "damp 0;seed " + seed + ";");
            LaughDrum always = told(BOX_A + "damp 100;seed " + seed + ";");
            LaughDrum untold = told(BOX_A + "seed " + seed + ";");
            never.years(9);
            always.years(9);
            untold.years(9);
            due("0", never.count(9), 0);
            due("100", always.count(9), 9);
            due("not told", untold.count(9), 0);
        }
        marked("damp ^101;", 2);
        LaughDrum x = told("damp 100;" + BOX_A);
        text(x, BOX_A);
        x.years(9);
        due("not told in a later text", x.count(9), 0);
    }

    private static void seed() {
        says("Terms for promise 3", "seed: 0 .. 99999 (0).");
        int[] seeds = {0, 1, 99998, 99999};
        for (int seed : seeds) {
            LaughDrum x = told(BOX_A + "damp 50;seed " + seed + ";");
            long last = seed;
            for (int year = 0; year < 20; year++) {
                last = last * 1103515245L + 12345L & 0x7fffffffL;
                int damp = x.count(9);
                x.years(1);
                due("seed " + seed + ", year " + year, x.count(9) - damp, last / 65536 % 100 < 50 ? 1 : 0);
            }
        }
        LaughDrum zero = told(BOX_A + "damp 50;seed 0;");
        LaughDrum untold = told(BOX_A + "damp 50;");
        LaughDrum later = told("seed 5;");
        text(later, BOX_A + "damp 50;");
        for (int year = 0; year < 20; year++) {
            zero.years(1);
            untold.years(1);
            later.years(1);
            due("not told", untold.count(9), zero.count(9));
            due("not told in a later text", later.count(9), zero.count(9));
        }
        marked("seed ^100000;", 2);
    }

    private static void numbered() {
        says("Terms for promise 5", "All numbered as they come;");
        LaughDrum x = told("box f 1 1 1 1 1 1 1 1 1 1;guest z 1 1;box e 2 1 1 1 1 1 1 1 1 1;guest a 2 2;"
            + "box d 3 1 1 1 1 1 1 1 1 1;box c 4 1 1 1 1 1 1 1 1 1;box b 5 1 1 1 1 1 1 1 1 1;box a 6 1 1 1 1 1 1 1 1 1;");
        for (int box = 0; box < 6; box++) {
            due("box " + box, x.named(0, 6 - box << 25), box);
            due("its spring", x.box(box, 0), box + 1);
        }
        due("the first guest", x.named(1, letters("z")), 0);
        due("the second guest", x.named(1, letters("a")), 1);
        due("its wait", x.guest(1, 0), 2);
        due("no seventh", thrown(x, 6, 0), 1);
        due("no third", x.guest(2, 0), NONE);
    }

    private static void kindsOfNames() {
        says("Terms for promise 5", "BOXES, GUESTS have names of their kind.");
        LaughDrum x = told(BOX_B + BOX_A + "guest a 1 1;guest b 1 1;");
        due("box a", x.named(0, letters("a")), 1);
        due("guest a", x.named(1, letters("a")), 0);
        marked(BOX_A + "guest b 1 1;kin a ^b;", 4);
        marked("guest a 1 1;tooth ^a 1;", 4);
        marked(BOX_A + "box ^a 1 1 1 1 1 1 1 1 1 1;", 3);
        marked("guest a 1 1;guest ^a 1 1;", 3);
    }

    private static void firstAlongTheText() {
        says("Terms for promise 4", "FAULTS, the first along the text (of one place the least), with its place:");
        marked("damp ^101;seed 100000;?", 2);
        marked("seed ^100000;damp 101;?", 2);
        marked("damp 1 ^?;seed 100000;", 1);
        marked("kin ^a b;damp 101;", 4);
        marked("damp 1;^damp 101;?", 3);
        marked(BOX_A + "kin a ^a ?;", 5);
        marked(SIX + "^box a 100 ?", 2);
        marked(BOX_A + "box ^a 100 0 10;", 3);
        // of one place: 1 and 2
        marked("damp 1 ^1000;", 1);
        marked("law wear 1 ^10000;", 1);
        marked("law wear ((((((((1^(", 1);
        marked("law wear not 0" + "+1".repeat(31) + " ^1;", 1);
        marked("law wear 0" + "+1".repeat(31) + "+^+;", 1);
        marked("law wear 0" + "+1".repeat(31) + "+^abc;", 1);
        marked("law wear not 0<1" + "+1".repeat(30) + "^<1;", 1);
        // 1 and 3, 1 and 4
        marked("box abcdef 1 1 1 1 1 1 1 1 1 1;box ^abcdefg 1 1 1 1 1 1 1 1 1 1;", 1);
        marked("kin ^box a;", 1);
        marked("tooth ^abcdefg 1;", 1);
    }

    private static void tokens() {
        says("Terms for promise 4", "1 a TOKEN that is none (a word of more than 6 letters that isn't of the language, too)");
        String[] none = {"?", "!", "A", "Z", "_", "\t", "\u0000", "\u007f", "\u0080", "\u00e4", "\u00ff", ",", ".", ":", "'",
            "\"", "[", "]", "{", "%", "&", "|", "abcdefg", "springs", "abcdefghijklmnopqrstuvwxyz", "toothss"};
        for (String token : none) {
            marked("^" + token, 1);
            marked("damp 1;^" + token + " 1;", 1);
            marked("damp ^" + token + ";", 1);
            marked("damp 1 ^" + token + ";", 1);
            marked("box ^" + token + " 1 1 1 1 1 1 1 1 1 1;", 1);
            marked("law ^" + token + " 1;", 1);
            marked("law wear ^" + token + ";", 1);
            marked("law wear 1 ^" + token + " 1;", 1);
            marked("law wear (1 ^" + token + ";", 1);
            marked("damp 1;\n ^" + token, 1);
        }
        told("box abcdef 1 1 1 1 1 1 1 1 1 1;law wear spring;");
    }

    private static void cannotStand() {
        says("Terms for promise 4", "or can't stand there");
        for (String word : SaysText.LANGUAGE) {
            boolean begins = "box tooth kin guest damp seed law".contains(word) && !word.equals("or");
            marked(begins ? word + " ^" + word : "^" + word, 1);
            marked("damp ^" + word + ";", 1);
            marked("damp 1 ^" + word + ";", 1);
            marked("box a ^" + word + " 1;", 1);
        }
        String[] signs = {"(", ")", "+", "-", "*", "/", "<", "<=", "=", "<>", ">=", ">", ";", "7", "x"};
        for (String sign : signs) {
            marked("^" + sign, 1);
            marked("box ^" + (sign.equals("x") ? "1" : sign) + ";", 1);
            if (!sign.equals("7")) {
                marked("damp ^" + sign + " 1;", 1);
                marked("guest g 1 ^" + sign + ";", 1);
            }
            if (!sign.equals(";")) {
                marked("damp 1 ^" + sign + ";", 1);
            }
            marked("law ^" + sign + ";", 1);
        }
        marked("^boxes a 1 1 1 1 1 1 1 1 1 1;", 1);
        marked("^kinn a b;", 1);
    }

    private static void moreMustCome() {
        says("Terms for promise 4", "(the length, if more must come).");
        String[] lines = {BOX_A + "", BOX_A + "tooth a 1;", BOX_A + BOX_B + "kin a b;", "guest g 1 1;", "damp 1;", "seed 1;",
            "law wear not (1 + spring) * 2 <= 3 and year or 4;"};
        for (String text : lines) {
            int last = text.lastIndexOf(';', text.length() - 2) + 1;
            due("the whole", text(new LaughDrum(), text) > 0, true);
            for (int cut = last + 1; cut < text.length(); cut++) {
                boolean ends = text.charAt(cut) == ' ' || text.charAt(cut) == ';' || text.charAt(cut) == '(';
                if (ends) {
                    faulty(text.substring(0, cut), 1, cut);
                    faulty(text.substring(0, cut) + " \n ", 1, cut + 3);
                }
            }
        }
        LaughDrum x = new LaughDrum();
        feed(x, "damp 1;");
        due("the first six bytes", x.text(6), NONE);
        due("their length, not the tape's", x.fault(1), 6);
        feed(x, "damp 100;");
        due("a part of a number", x.text(7), NONE);
        due("its end, not the number's", x.fault(1), 7);
    }

    private static void numbersBeyond() {
        says("Terms for promise 4", "2 too much (at it): a number beyond what is said,");
        String[] ahead = {"box a ", "box a 1 ", "box a 1 1 ", "box a 1 1 1 1 1 1 1 1 1 ", BOX_A + "tooth a ", "guest g ",
            "guest g 1 ", "damp ", "seed ", "law wear ", "law wear 1 + "};
        int[] most = {99, 9, 9, 9, 9, 99, 9, 100, 99999, 9999, 9999};
        for (int i = 0; i < ahead.length; i++) {
            faulty(ahead[i] + most[i], 1, (ahead[i] + most[i]).length());
            marked(ahead[i] + "^" + (most[i] + 1), 2);
            marked(ahead[i] + "^" + (most[i] + 1) + " ?", 2);
            for (int bits = 31; bits <= 128; bits++) {
                // a number that would come round to 1, were its high bits lost
                marked(ahead[i] + "^" + BigInteger.ONE.shiftLeft(bits).add(BigInteger.ONE), 2);
            }
            marked(ahead[i] + "^" + "9".repeat(500), 2);
            marked(ahead[i] + "^1" + "0".repeat(500), 2);
        }
        marked("box a 1 ^0", 2);
        marked(BOX_A + "tooth a ^0", 2);
    }

    private static void seventhAndSoOn() {
        says("Terms for promise 4", "a seventh box and so on (at the word of the LINE),");
        String full = SIX + SaysText.TWELVE_TEETH + SaysText.NINE_KIN + SaysText.FIVE_GUESTS;
        due("as many as there may be", text(new LaughDrum(), full), 32);
        String[] words = {"box", "tooth", "kin", "guest"};
        for (String word : words) {
            marked(full + "^" + word, 2);
            marked(full + " \n^" + word + " ?;", 2);
        }
        marked(SIX + "^box a 1 1 1 1 1 1 1 1 1 1;", 2);
        marked(SIX + SaysText.TWELVE_TEETH + "^tooth z 0;", 2);
        marked(SIX + SaysText.NINE_KIN + "^kin a a;", 2);
        marked(SaysText.FIVE_GUESTS + "^guest a 1 1;", 2);
    }

    private static void ninthOpen() {
        says("Terms for promise 4", "a ninth '(' open,");
        told("law wear ((((((((1))))))));");
        told("law wear ((((((((1))))))))+(((((((( 1))))))));");
        told("law wear (((((((1+(2))+(3)))))));");
        marked("law wear ((((((((^(1)))))))));", 2);
        marked("law wear ((((((((^(", 2);
        marked("law wear ((((((((1+^(2)", 2);
        marked("law wear (((((((1)+((^(2)", 2);
        told("law wear ((((((((1))))))));law sour ((((((((1))))))));");
    }

    /** The knots of that many ones with signs between. */
    private static String sum(int knots) {
        return knots % 2 == 0 ? "not " + sum(knots - 1) : "0" + "+1".repeat(knots / 2);
    }

    private static void knots() {
        says("Terms for promise 4", "a 65th KNOT of all E");
        due("64 of one", told("law wear " + sum(64) + ";").count(3), 64);
        due("64 of two", told("law wear " + sum(31) + ";law sour " + sum(33) + ";").count(3), 64);
        due("64 of three", told("law wear " + sum(20) + ";law sour " + sum(22) + ";law charm " + sum(22) + ";").count(3), 64);
        due("all are worked out", told(BOX_A + "law wear " + sum(63) + ";").law(0, 0), 31);
        marked("law wear " + sum(63) + "+^1;", 2);
        marked("law wear " + "not ".repeat(64) + "^1;", 2);
        marked("law wear " + sum(64) + "^+1;", 2);
        marked("law wear " + sum(31) + ";law sour " + sum(33) + "^+1;", 2);
        marked("law wear " + sum(31) + ";law sour " + sum(33) + ";law charm ^1;", 2);
        marked("law wear " + sum(63) + ";law sour 1^+1;", 2);
    }

    private static void kindsOfKnots() {
        says("Terms for promise 4", "(N, NAMES, signs, not, and, or: one each).");
        due("N", told("law wear 9999;").count(3), 1);
        due("brackets are none", told("law wear ((((7))));").count(3), 1);
        due("not", told("law wear not not 7;").count(3), 3);
        marked("law wear " + sum(63) + ";law sour not ^7;", 2);
        String full = "law wear " + sum(61) + ";law sour ";
        for (String name : SaysText.NAMES) {
            due(name, told("law wear " + name + ";").count(3), 1);
            marked("law wear " + sum(64) + ";law sour ^" + name + ";", 2);
        }
        for (String sign : ONE_KNOT_EACH) {
            due(sign, told("law wear 1" + sign + "2;").count(3), 3);
            due("64 with " + sign, told(full + "1" + sign + "2;").count(3), 64);
            String at = sign.replaceFirst("^ ?", "$0^");
            marked("law wear " + sum(63) + ";law sour 1" + at + "2;", 2);
        }
        marked("law wear " + sum(64) + ";law sour ^not 1;", 2);
        marked("law wear " + sum(64) + ";law sour (((^1)));", 2);
    }

    private static void nameTwice() {
        says("Terms for promise 4", "3 told already: a name of its kind (at W),");
        told("box abcdef 1 1 1 1 1 1 1 1 1 1;box abcdee 1 1 1 1 1 1 1 1 1 1;box abcde 1 1 1 1 1 1 1 1 1 1;");
        marked("box abcdef 1 1 1 1 1 1 1 1 1 1;box ^abcdef", 3);
        marked(BOX_A + BOX_B + "box ^b 1 1 1 1 1 1 1 1 1 1;", 3);
        marked(BOX_A + "guest a 1 1;guest ^a 1 1;", 3);
        marked("guest g 1 1;guest h 1 1;guest ^g", 3);
    }

    private static void toothTwice() {
        says("Terms for promise 4", "a TOOTH of the same BOX (at its number),");
        told(BOX_A + BOX_B + "tooth a 7;tooth b 7;tooth a 8;");
        marked(BOX_A + "tooth a 7;tooth a ^7;", 3);
        marked(BOX_A + "tooth a 7;tooth a ^0007", 3);
        marked(BOX_A + BOX_B + "tooth a 7;tooth b 7;tooth b ^7;", 3);
    }

    private static void kinTwice() {
        says("Terms for promise 4", "KIN of the same two (at the second W),");
        told(SIX + "kin a b;kin b c;kin c a;");
        marked(BOX_A + BOX_B + "kin a b;kin a ^b;", 3);
        marked(BOX_A + BOX_B + "kin a b;kin b ^a", 3);
        marked(SIX + "kin e f;kin a b;kin f ^e;", 3);
    }

    private static void dampAndSeedTwice() {
        says("Terms for promise 4", "damp, seed (at the word),");
        told("damp 0;seed 0;");
        marked("damp 0;^damp 0;", 3);
        marked("damp 0;^damp", 3);
        marked("seed 0;^seed 0;", 3);
        marked("seed 0;damp 0;^seed", 3);
        LaughDrum x = told("damp 0;seed 0;");
        due("told again in another text", text(x, "damp 1;seed 1;"), 2);
    }

    private static void lawTwice() {
        says("Terms for promise 4", "a law of its LAW (at LAW).");
        told("law sour 1;law wear 1;law charm 1;");
        String[] laws = {"wear", "sour", "charm"};
        for (String law : laws) {
            marked("law " + law + " 0;law ^" + law + " 0;", 3);
            marked("law " + law + " 0;law ^" + law, 3);
        }
        marked("law sour 1;law wear 1;law charm 1;law ^wear 1;", 3);
        LaughDrum x = told("law sour 1;");
        due("told again in another text", text(x, "law sour 2;"), 1);
    }

    private static void notTold() {
        says("Terms for promise 4", "4 a BOX that isn't told ahead (at W).");
        told(BOX_A + "tooth a 1;");
        marked("tooth ^a 1;" + BOX_A, 4);
        marked("tooth ^a", 4);
        marked(BOX_A + "tooth ^b 1;", 4);
        marked(BOX_A + "kin a ^b;" + BOX_B, 4);
        marked(BOX_A + "kin ^b a;" + BOX_B, 4);
        marked("kin ^b b;", 4);
        marked(BOX_A + "guest g 1 1;tooth ^g 1;", 4);
        LaughDrum x = told(BOX_A);
        due("told in an earlier text alone", text(x, "tooth a 1;"), NONE);
        due("the fault of it", x.fault(0), 4);
    }

    private static void withItself() {
        says("Terms for promise 4", "5 KIN of a BOX with itself (at the second W).");
        told(BOX_A + BOX_B + "kin a b;");
        marked(BOX_A + BOX_B + "kin a ^a;", 5);
        marked(BOX_A + BOX_B + "kin a b;kin b ^b", 5);
        marked(SIX + "kin f ^f;", 5);
    }
}
