/** What the document says of a text: what it is, its language, and promises 1 to 4. Its faults: SaysFaults. */
final class SaysText extends Check {
    static final String BOX_A = "box a 1 1 1 1 1 1 1 1 1 1;";
    static final String BOX_B = "box b 1 1 1 1 1 1 1 1 1 1;";
    static final String SIX = BOX_A + BOX_B + "box c 1 1 1 1 1 1 1 1 1 1;box d 1 1 1 1 1 1 1 1 1 1;"
        + "box e 1 1 1 1 1 1 1 1 1 1;box f 1 1 1 1 1 1 1 1 1 1;";
    static final String NINE_KIN = "kin a b;kin a c;kin a d;kin a e;kin a f;kin b c;kin b d;kin b e;kin b f;";
    static final String TWELVE_TEETH = "tooth a 1;tooth a 2;tooth a 3;tooth a 4;tooth a 5;tooth a 6;tooth a 7;tooth a 8;"
        + "tooth a 9;tooth b 1;tooth b 2;tooth b 3;";
    static final String FIVE_GUESTS = "guest a 1 1;guest b 1 1;guest c 1 1;guest d 1 1;guest e 1 1;";
    static final String[] LANGUAGE = {"box", "tooth", "kin", "guest", "damp", "seed", "law", "wear", "sour", "charm",
        "or", "and", "not", "spring", "slow", "pins", "false", "teeth", "plays", "year"};
    static final String[] NAMES = {"spring", "slow", "pins", "false", "teeth", "plays", "year"};

    static void all() {
        test(SaysText::calls512);
        test(SaysText::linesOfText);
        test(SaysText::kindsOfLine);
        test(SaysText::kindsOfLaw);
        test(SaysText::words);
        test(SaysText::ownNames);
        test(SaysText::digits);
        test(SaysText::blanks);
        test(SaysText::grammarOfTruth);
        test(SaysText::grammarOfComparisons);
        test(SaysText::grammarOfSums);
        test(SaysText::operands);
        test(SaysText::numbersOfE);
        test(SaysText::namesOfE);
        test(SaysText::signsOfTwo);
        test(SaysText::newObject);
        test(SaysText::feedTwenty);
        test(SaysText::tapeIsFull);
        test(SaysText::textTakesTheTape);
        test(SaysText::textSetsOut);
        test(SaysText::textAfterTexts);
        test(SaysText::textOfCutBytes);
        test(SaysText::textWithFault);
        test(SaysText::textTooLong);
        test(SaysText::faultOfLatest);
        test(SaysText::faultOfAnotherWhat);
    }

    private static void calls512() {
        says("What it is", "An object is used for at most 512 calls after it has been made; what later calls answer is free.");
        LaughDrum x = new LaughDrum();
        feed(x, BOX_A);
        due("the third call", x.text(BOX_A.length()), 1);
        for (int call = 4; call <= 511; call++) {
            due("call " + call, call % 2 == 0 ? x.wind(0, 7) : x.undo(), call % 2 == 0 ? 8 : 0);
        }
        due("the 512th call", x.box(0, 0), 1);
    }

    private static void linesOfText() {
        says("Terms for promise 3", "A TEXT: { LINE ';' }.");
        due("no line", told("").count(0), 0);
        told("damp 1;");
        told("damp 1;seed 1;");
        String all = SIX + NINE_KIN + TWELVE_TEETH + FIVE_GUESTS + "damp 1;seed 1;law wear 1;law sour 1;law charm 1;";
        LaughDrum x = new LaughDrum();
        due("as many lines as can be told", text(x, all), 37);
        marked("^;", 1);
        marked("damp 1;^;", 1);
        marked("damp 1^", 1);
        marked("damp 1 ^seed 1;", 1);
        marked("damp 1;^1", 1);
    }

    private static void kindsOfLine() {
        says("Terms for promise 3", "LINE: box W N N N N N N N N N N | tooth W N | kin W W | guest W N N | damp N | seed N | law LAW E.");
        told("box a 1 1 1 1 1 1 1 1 1 1;");
        marked("box a 1 1 1 1 1 1 1 1 1^;", 1);
        marked("box a 1 1 1 1 1 1 1 1 1 1 ^1;", 1);
        marked("box ^1 1 1 1 1 1 1 1 1 1 1;", 1);
        for (int n = 0; n < 10; n++) {
            marked("box a" + " 1".repeat(n) + "^;", 1);
            marked("box a" + " 1".repeat(n) + " ^x" + " 1".repeat(9 - n) + ";", 1);
        }
        told(BOX_A + "tooth a 1;");
        marked(BOX_A + "tooth a^;", 1);
        marked(BOX_A + "tooth a 1 ^1;", 1);
        marked(BOX_A + "tooth a ^a;", 1);
        marked(BOX_A + "tooth ^1;", 1);
        told(BOX_A + BOX_B + "kin a b;");
        marked(BOX_A + BOX_B + "kin a^;", 1);
        marked(BOX_A + BOX_B + "kin a b ^a;", 1);
        marked(BOX_A + BOX_B + "kin a ^1;", 1);
        marked(BOX_A + BOX_B + "kin ^1 a;", 1);
        told("guest g 1 1;");
        marked("guest g 1^;", 1);
        marked("guest g^;", 1);
        marked("guest ^1 1;", 1);
        marked("guest g 1 1 ^1;", 1);
        told("damp 1;");
        marked("damp^;", 1);
        marked("damp 1 ^1;", 1);
        told("seed 1;");
        marked("seed^;", 1);
        marked("seed 1 ^1;", 1);
        told("law wear 1;");
        marked("law wear^;", 1);
        marked("law^;", 1);
        marked("law wear 1 ^1;", 1);
        marked("^wear 1;", 1);
    }

    private static void kindsOfLaw() {
        says("Terms for promise 3", "LAW: wear | sour | charm.");
        LaughDrum x = told(BOX_A + "law wear 3;law sour 4;law charm 5;");
        for (int what = 0; what < 3; what++) {
            due("law(" + what + ", 0)", x.law(what, 0), 3 + what);
        }
        for (String word : LANGUAGE) {
            if (!"wear sour charm".contains(word)) {
                marked("law ^" + word + " 1;", 1);
            }
        }
        marked("law ^wea 1;", 1);
        marked("law ^wears 1;", 1);
        marked("law ^1;", 1);
    }

    private static void words() {
        says("Terms for promise 3", "Words: small letters in a row;");
        due("a to z", told("box az 1 1 1 1 1 1 1 1 1 1;").named(0, letters("az")), 0);
        marked("box ^` 1 1 1 1 1 1 1 1 1 1;", 1);
        marked("box a^{ 1 1 1 1 1 1 1 1 1 1;", 1);
        marked("box ^A 1 1 1 1 1 1 1 1 1 1;", 1);
        marked("box a^Z 1 1 1 1 1 1 1 1 1 1;", 1);
        marked("^bo x a 1 1 1 1 1 1 1 1 1 1;", 1);
        marked("^boxa 1 1 1 1 1 1 1 1 1 1;", 1);
        due("a number ends a word", told("box a1 1 1 1 1 1 1 1 1 1;damp1;").named(0, letters("a")), 0);
    }

    private static void ownNames() {
        says("Terms for promise 3", "W: one of 1 .. 6 letters, none of those of the language;");
        due("1 letter", told("box z 1 1 1 1 1 1 1 1 1 1;").named(0, letters("z")), 0);
        due("6 letters", told("box abcdef 1 1 1 1 1 1 1 1 1 1;").named(0, letters("abcdef")), 0);
        due("6 letters of a guest", told("guest zzzzzz 1 1;").named(1, letters("zzzzzz")), 0);
        marked("box ^abcdefg 1 1 1 1 1 1 1 1 1 1;", 1);
        marked("guest ^zzzzzzz 1 1;", 1);
        for (String word : LANGUAGE) {
            marked("box ^" + word + " 1 1 1 1 1 1 1 1 1 1;", 1);
            marked("guest ^" + word + " 1 1;", 1);
            marked("tooth ^" + word + " 1;", 1);
            marked("kin ^" + word + " a;", 1);
            marked(BOX_A + "kin a ^" + word + ";", 1);
            String less = word.substring(1);
            due("the language's " + word + " but a letter", told("guest " + less + " 1 1;").named(1, letters(less)), 0);
            if (word.length() < 6) {
                told("guest " + word + "s 1 1;");
            }
        }
    }

    private static void digits() {
        says("Terms for promise 3", "N: digits.");
        due("0 .. 9", told("guest g 01 2;guest h 34 5;guest i 67 8;guest j 90 0;").guest(2, 0), 67);
        due("zeros ahead", told("guest g 00000000000000000099 0009;").guest(0, 0), 99);
        marked("guest g ^0000000000000000000100 9;", 2);
        marked("damp 1^/;", 1);
        marked("damp 1^:;", 1);
        marked("damp ^/;", 1);
        marked("damp ^:;", 1);
        marked("damp ^-1;", 1);
        marked("damp ^+1;", 1);
        marked("damp 1^.5;", 1);
        marked("damp 1^x;", 1);
    }

    private static void blanks() {
        says("Terms for promise 3", "Blanks 10, 32.");
        for (int sign = 0; sign < 256; sign++) {
            boolean isDigit = sign >= '0' && sign <= '9';
            boolean isLetter = sign >= 'a' && sign <= 'z';
            if (sign == 10 || sign == 32 || isDigit) {
                told("damp" + (char) sign + "1;");
            } else {
                faulty("damp" + (char) sign + "1;", 1, isLetter ? 0 : 4);
            }
        }
        due("blanks all over", text(new LaughDrum(), " \n damp\n1 \n;\n\nseed 00002 ;  \n"), 2);
        due("blanks alone", text(new LaughDrum(), " \n "), 0);
        faulty("\t", 1, 0);
        faulty("damp 1;\r", 1, 7);
    }

    /** That E of wear has that value for a box that is no different from any other. */
    static void worth(String e, long value) {
        due("law wear " + e, told("box a 5 2 1 2 3 4 0 5 6 9;law wear " + e + ";").law(0, 0), value);
    }

    private static void grammarOfTruth() {
        says("Terms for promise 3", "E: A { or A }. A: B { and B }. B: not B | C.");
        worth("0", 0);
        worth("0 or 0 or 1", 1);
        worth("1 and 1 and 0", 0);
        worth("1 or 1 and 0", 1);
        worth("(1 or 1) and 0", 0);
        worth("0 and 0 or 1", 1);
        worth("0 and (0 or 1)", 0);
        worth("not 0 and 0", 0);
        worth("not (0 and 0)", 1);
        worth("not 1 or 1", 1);
        worth("not (1 or 1)", 0);
        worth("1 and not 0", 1);
        worth("0 or not 0", 1);
        worth("not not not 0", 1);
        worth("not 1 = 2", 1);
        worth("not 3 - 3", 1);
        marked("law wear ^or 1;", 1);
        marked("law wear 1 or^;", 1);
        marked("law wear 1 or ^or 1;", 1);
        marked("law wear ^and 1;", 1);
        marked("law wear 1 and^;", 1);
        marked("law wear 1 and ^or 1;", 1);
        marked("law wear not^;", 1);
        marked("law wear not ^and 1;", 1);
        marked("law wear 1 ^not;", 1);
        marked("law wear 1 < ^not 2;", 1);
        marked("law wear 1 + ^not 2;", 1);
        marked("law wear 1 * ^not 2;", 1);
        told("law wear 1 * (not 2);");
    }

    private static void grammarOfComparisons() {
        says("Terms for promise 3", "C: S [ ( < | <= | = | <> | >= | > ) S ].");
        int[][] due = {{1, 0, 0}, {1, 1, 0}, {0, 1, 0}, {1, 0, 1}, {0, 1, 1}, {0, 0, 1}};
        String[] signs = {"<", "<=", "=", "<>", ">=", ">"};
        for (int i = 0; i < signs.length; i++) {
            for (int left = 6; left <= 8; left++) {
                worth(left + signs[i] + "7", due[i][left - 6]);
            }
            worth("3 + 4 " + signs[i] + " 9 - 2", due[i][1]);
            marked("law wear 1 " + signs[i] + " 2 ^< 3;", 1);
            marked("law wear 1 < 2 ^" + signs[i] + " 3;", 1);
            marked("law wear 1 " + signs[i] + " 2 + 3 ^= 3;", 1);
            marked("law wear 1 " + signs[i] + "^;", 1);
            marked("law wear ^" + signs[i] + " 1;", 1);
            told("law wear 1 " + signs[i] + " 2 and 3 < 4 or not 5 < 6;");
            told("law wear (1 " + signs[i] + " 2) = (3 " + signs[i] + " 4);");
        }
        worth("(1 < 2 and 3 < 4)", 1);
        worth("((1 < 2 or 3 < 4) and 5 > 6)", 0);
        worth("(1 < 2) + (3 < 4) + (5 < 6)", 3);
        marked("law wear (1 < 2 and 3 < 4 ^< 5);", 1);
        marked("law wear 1 < (2 < 3 and 4 < 5) ^< 6;", 1);
        marked("law wear (1 < 2) = 3 ^= 4;", 1);
        marked("law wear (1 = 2 ^= 3);", 1);
        marked("law wear 1 = (2) ^= 3;", 1);
        worth("1 < (2 < 1)", 0);
        worth("(2 < 1) < 1", 1);
    }

    private static void grammarOfSums() {
        says("Terms for promise 3", "S: T { ( + | - ) T }. T: P { ( * | / ) P }.");
        worth("1 + 2 * 3", 7);
        worth("(1 + 2) * 3", 9);
        worth("2 * 3 + 1", 7);
        worth("7 - 3 - 2", 2);
        worth("7 - (3 - 2)", 6);
        worth("7 - 3 + 2", 6);
        worth("100 / 10 / 5", 2);
        worth("100 / (10 / 5)", 50);
        worth("7 / 2 * 2", 6);
        worth("7 * 2 / 2", 7);
        worth("9 + 2 - 3 * 2 / 4", 10);
        worth("5 - 6 / 2", 2);
        String[] signs = {"+", "-", "*", "/"};
        for (String sign : signs) {
            marked("law wear ^" + sign + " 1;", 1);
            marked("law wear 1 " + sign + "^;", 1);
            marked("law wear 1 " + sign + " ^- 1;", 1);
            marked("law wear (1 " + sign + "^);", 1);
        }
    }

    private static void operands() {
        says("Terms for promise 3", "P: N | NAME | '(' E ')';");
        worth("7", 7);
        worth("spring", 5);
        worth("(7)", 7);
        worth("((1 or 0) + (not 0 and 1 < 2))", 2);
        marked("law wear (^);", 1);
        marked("law wear (1^;", 1);
        marked("law wear (1^", 1);
        marked("law wear 1^);", 1);
        marked("law wear (1)^);", 1);
        marked("law wear ^);", 1);
        marked("law wear 1 ^(2);", 1);
        marked("law wear (1) ^2;", 1);
        marked("law wear spring ^spring;", 1);
        marked("law wear (1 +^);", 1);
    }

    private static void numbersOfE() {
        says("Terms for promise 3", "N of E 0 .. 9999.");
        worth("0", 0);
        worth("9999", 9999);
        worth("00009999", 9999);
        marked("law wear ^10000;", 2);
        marked("law wear 1 + ^10000;", 2);
        marked("law wear ^99999999999999999999;", 2);
        marked("law wear ^4294967296;", 2);
    }

    private static void namesOfE() {
        says("Terms for promise 3", "NAME: spring slow pins false teeth plays year.");
        for (String word : LANGUAGE) {
            if (String.join(" ", NAMES).contains(word)) {
                told("law charm " + word + ";");
            } else if (!word.equals("not")) {
                marked("law charm ^" + word + ";", 1);
            }
        }
        marked("law charm ^sprin;", 1);
        marked("law charm ^slows;", 1);
        marked("box a 1 1 1 1 1 1 1 1 1 1;law charm ^a;", 1);
    }

    private static void signsOfTwo() {
        says("Terms for promise 3", "A = (or > behind <) right behind < or > belongs to it.");
        worth("7<=7", 1);
        worth("7<>7", 0);
        worth("7>=7", 1);
        worth("7<(7)", 0);
        worth("7>(7)", 0);
        marked("law wear 1 < ^= 2;", 1);
        marked("law wear 1 < ^> 2;", 1);
        marked("law wear 1 > ^= 2;", 1);
        marked("law wear 1 <\n^= 2;", 1);
        marked("law wear 1 >^> 2;", 1);
        marked("law wear 1 >^< 2;", 1);
        marked("law wear 1 <^< 2;", 1);
        marked("law wear 1 =^< 2;", 1);
        marked("law wear 1 =^> 2;", 1);
        marked("law wear 1 =^= 2;", 1);
        marked("law wear 1 <=^> 2;", 1);
        marked("law wear 1 <>^= 2;", 1);
        marked("law wear 1 >=^= 2;", 1);
        marked("law wear 1 <^", 1);
    }

    private static void newObject() {
        says("Promise 1", "A TEXT without LINES; an empty TAPE.");
        LaughDrum x = new LaughDrum();
        for (int what = 0; what <= 12; what++) {
            due("count(" + what + ")", x.count(what), 0);
        }
        due("no box", thrown(x, 0, 0), 1);
        due("no image", x.back(), NONE);
        due("no name", x.named(0, 0), NONE);
        due("no guest's name", x.named(1, 0), NONE);
        due("no bytes", x.text(1), -2);
        due("the first twenty", x.feed(0, 0, 0, 0, 0), 20);
        due("none of them", new LaughDrum().text(0), 0);
    }

    private static void feedTwenty() {
        says("Promise 2", "Twenty bytes come behind the TAPE, four of each number, the highest first: how many it has;");
        LaughDrum x = new LaughDrum();
        // "guest abcdef 10 " and "2 ; " make one text, so each byte must stand in its place
        due("first", x.feed(0x67756573, 0x74206162, 0x63646566, 0x20313020, 0x32203b20), 20);
        due("second", x.feed(0x64616d70, 0x20313b20, 0x20202020, 0x20202020, 0x2020203f), 40);
        due("all but the last byte", x.text(39), 2);
        due("its name", x.named(1, letters("abcdef")), 0);
        due("its wait", x.guest(0, 0), 10);
        due("from none again", x.feed(0x20202020, 0x20202020, 0x20202020, 0x20202020, 0x2020203f), 20);
        due("the last byte", x.text(20), NONE);
        due("the last byte's place", x.fault(1), 19);
        int[] bytes = {0x80202020, 0x20ff2020, 0x20200020, 0x2020207f};
        for (int i = 0; i < 4; i++) {
            x.feed(0x20202020, 0x20202020, bytes[i], 0x20202020, 0x20202020);
            due("a strange byte", x.text(20), NONE);
            due("a strange byte's place", x.fault(1), 8 + i);
        }
    }

    private static void tapeIsFull() {
        says("Promise 2", "NONE, and none come, if it would have more than 700.");
        LaughDrum x = new LaughDrum();
        for (int i = 1; i <= 35; i++) {
            due("feed " + i, x.feed(0x20202020, 0x20202020, 0x20202020, 0x20202020, 0x20202020), 20 * i);
        }
        due("a 36th", x.feed(0x3f3f3f3f, 0, 0, 0, 0), NONE);
        due("none came", x.text(701), -2);
        due("nor in place of another", x.text(700), 0);
        due("empty then", x.feed(0, 0, 0, 0, 0), 20);
    }

    private static void textTakesTheTape() {
        says("Promise 3", "The TAPE's first n bytes (it is empty then) are the TEXT");
        LaughDrum x = new LaughDrum();
        feed(x, "damp 1;seed 2;?");
        due("text(14)", x.text(14), 2);
        due("empty", x.text(1), -2);
        due("fed anew", x.feed(0, 0, 0, 0, 0), 20);
        due("the first 0 bytes", x.text(0), 0);
        due("empty once more", x.text(1), -2);
        feed(x, "damp 1;seed 2;?");
        due("text(13)", x.text(13), NONE);
        due("more must come at 13", x.fault(1), 13);
        due("empty behind a fault", x.text(1), -2);
        feed(x, "damp 1;seed 2;?");
        due("text(15)", x.text(15), NONE);
        due("the 15th byte is looked at", x.fault(1), 14);
        due("text(20) of 0", x.text(20), -2);
    }

    private static void textSetsOut() {
        says("Promise 3", "(YEAR 0, nothing FALSE, STOLEN, FOUND, all KNOWN, no IMAGE, nothing to undo then): how many LINES;");
        String text = "box a 9 2 1 1 1 1 1 1 1 1;tooth a 3;guest g 1 1;damp 50;seed 7;law charm 5;";
        LaughDrum x = told(text);
        x.years(4);
        x.years(4);
        x.keep();
        x.wind(0, 1);
        x.tooth(0, 3, false);
        x.tooth(0, 4, true);
        x.steal(0, true);
        x.find(0, 9, true);
        x.known(0);
        due("how many lines", text(x, text), 6);
        int[] due = {1, 0, 1, 1, 0, 0, 0, 0, 1, 0, 0, 0, 0};
        for (int what = 0; what < due.length; what++) {
            due("count(" + what + ") then", x.count(what), due[what]);
        }
        int[] box = {9, 2, 0, 0, 0, 0, 1 << 3};
        for (int what = 0; what < box.length; what++) {
            due("box(0, " + what + ") then", x.box(0, what), box[what]);
        }
        due("back then", x.back(), NONE);
        due("undo then", x.undo(), NONE);
        due("find then", x.find(0, 9, true), 0);
        due("all known then", x.count(11), 1);
        due("whose then", x.whose(), 0);
        LaughDrum other = told(text);
        x.years(20);
        other.years(20);
        due("the numbers from the seed again", x.count(9), other.count(9));
        due("fewer lines", text(x, "damp 1;"), 1);
        due("no boxes then", x.count(0), 0);
        due("no guests then", x.count(2), 0);
        due("no law then", x.count(3), 0);
        due("no lines", x.text(0), 0);
    }

    /** What the calls tell of a text, with a year of it and what was found. */
    private static String tells(LaughDrum x) {
        StringBuilder tells = new StringBuilder();
        for (int what = 0; what <= 12; what++) {
            tells.append(x.count(what)).append(' ');
        }
        for (int box = 0; box < x.count(0); box++) {
            for (int what = 0; what <= 6; what++) {
                tells.append(x.box(box, what)).append(' ');
            }
            tells.append(x.law(0, box)).append(' ').append(x.law(1, box)).append(' ').append(x.law(2, box)).append(' ');
            for (int other = 0; other < x.count(0); other++) {
                tells.append(x.kin(box, other));
            }
        }
        x.find(0, 1, true);
        x.find(1, 1, false);
        tells.append(x.whose()).append(' ').append(x.winding(3, 3, 3)).append(' ').append(x.years(30)).append(' ').append(x.count(9));
        return tells.append(' ').append(x.count(6)).toString();
    }

    private static void textAfterTexts() {
        says("Promise 3", "are the TEXT (YEAR 0, nothing FALSE, STOLEN, FOUND, all KNOWN, no IMAGE, nothing to undo then): how many LINES;");
        String[] texts = {SIX + "tooth a 1;tooth a 2;tooth b 3;tooth f 9;tooth f 8;kin a b;kin c d;kin e f;kin a f;guest g 9 9;guest h 8 8;guest i 7 7;"
            + "damp 50;seed 77;law wear " + "0+".repeat(15) + "1;law sour 1<2;law charm (((((((1))))))) + spring;", "damp 100;", BOX_A,
            "box a 5 5 0 0 0 0 1 2 3 4;damp 30;law wear (1<(2<3));law charm pins;", "", BOX_B + BOX_A + "kin b a;tooth a 4;seed 9;law sour 3;",
            "?", "law wear 1+;", "law wear 1<2<3;", "law wear ((((((((1;", "law wear " + "1*".repeat(31) + ";", "law sour not;",
            "damp 9;seed 9;law charm 9;?", SIX + NINE_KIN + TWELVE_TEETH + FIVE_GUESTS + "?", "law wear (1 + (2 < 3 and;", BOX_A + "tooth a 5;kin a a;"};
        LaughDrum x = new LaughDrum();
        for (int i = 0; i < texts.length * texts.length; i++) {
            if (i % 3 == 0) {
                x = new LaughDrum();
            }
            String ahead = texts[i / texts.length];
            String behind = texts[i % texts.length];
            text(x, ahead);
            x.find(0, 3, true);
            x.strike(0);
            int got = text(x, behind);
            LaughDrum only = new LaughDrum();
            due("'" + behind + "' behind '" + ahead + "'", got, text(only, behind));
            due("the fault of it", x.fault(0), only.fault(0));
            due("the place of it", x.fault(1), only.fault(1));
            if (got >= 0) {
                due("as if none had been ahead", tells(x).equals(tells(only)), true);
            }
        }
    }

    private static void textOfCutBytes() {
        says("Promise 3", "The TAPE's first n bytes");
        String text = BOX_A + "box boxes 10 2 3 4 5 6 7 8 9 0;damp 100;law wear 12<=34;";
        for (int n = 0; n <= text.length(); n++) {
            LaughDrum x = new LaughDrum();
            feed(x, text);
            LaughDrum only = new LaughDrum();
            due("the first " + n, x.text(n), text(only, text.substring(0, n)));
            due("the fault of the first " + n, x.fault(0), only.fault(0));
            due("the place of the first " + n, x.fault(1), only.fault(1));
        }
    }

    private static void textWithFault() {
        says("Promise 3", "NONE with a FAULT, all stays;");
        LaughDrum x = told(BOX_A + "tooth a 2;guest g 9 2;law charm 7;damp 100;");
        x.years(3);
        x.keep();
        x.wind(0, 5);
        x.steal(0, true);
        x.find(0, 1, true);
        x.find(0, 0, true);
        x.known(1);
        int[] counts = new int[13];
        for (int what = 0; what < 13; what++) {
            counts[what] = x.count(what);
        }
        due("a year went by", counts[4], 3);
        due("two to undo", counts[12], 2);
        String[] faulty = {BOX_B + BOX_B, BOX_B + "guest h 3 3;damp 20;seed 9;law charm 2 + 2;law wear 3;tooth b 4;?", "?",
            SIX + NINE_KIN + FIVE_GUESTS + "kin c d;"};
        for (String text : faulty) {
            due("faulty", text(x, text), NONE);
            for (int what = 0; what < 13; what++) {
                due("count(" + what + ") stays", x.count(what), counts[what]);
            }
            due("name stays", x.named(0, letters("a")), 0);
            due("no other name", x.named(0, letters("b")), NONE);
            due("guest stays", x.guest(0, 0), 9);
            due("no other guest", x.guest(1, 0), NONE);
            due("law stays", x.law(2, 0), 7);
            due("no other law", x.law(0, 0), Long.MIN_VALUE);
            due("teeth stay", x.box(0, 6), 1 << 2);
            due("damp stays", x.ahead(0, 9, 1), 12);
        }
        due("undo stays", x.undo(), 1);
        due("back stays", x.back(), 3);
        due("known stays", x.known(2), true);
    }

    private static void textTooLong() {
        says("Promise 3", "-2, and the TAPE stays: there are not so many, n is below 0.");
        LaughDrum x = new LaughDrum();
        due("1 of none", x.text(1), -2);
        feed(x, "damp 1;");
        due("21 of 20", x.text(21), -2);
        due("-1", x.text(-1), -2);
        due("the least int", x.text(Integer.MIN_VALUE), -2);
        due("the most int", x.text(Integer.MAX_VALUE), -2);
        due("it stays", x.feed(0x20202020, 0x20202020, 0x20202020, 0x20202020, 0x20202020), 40);
        due("41 of 40", x.text(41), -2);
        due("40 of 40", x.text(40), 1);
        due("0 of none", x.text(0), 0);
    }

    private static void faultOfLatest() {
        says("Promise 4", "Of the latest text() that was not -2, what 0: its FAULT (0), 1: its place (NONE without).");
        LaughDrum x = new LaughDrum();
        due("without a text", x.fault(0), 0);
        due("its place without a text", x.fault(1), NONE);
        text(x, "damp 1;damp");
        due("with a fault", x.fault(0), 3);
        due("its place", x.fault(1), 7);
        due("-2", x.text(1), -2);
        due("-2 below 0", x.text(-1), -2);
        due("the same fault", x.fault(0), 3);
        due("the same place", x.fault(1), 7);
        x.feed(0, 0, 0, 0, 0);
        due("fed: the same fault", x.fault(0), 3);
        due("a text without lines", x.text(0), 0);
        due("no fault", x.fault(0), 0);
        due("no place", x.fault(1), NONE);
        text(x, "?");
        due("a fault at 0", x.fault(0), 1);
        due("the place 0", x.fault(1), 0);
        text(x, " ".repeat(699) + "?");
        due("the last place of all", x.fault(1), 699);
        text(x, " ".repeat(696) + "damp");
        due("the length of all", x.fault(1), 700);
    }

    private static void faultOfAnotherWhat() {
        says("Promise 4", "NONE for another what.");
        LaughDrum x = new LaughDrum();
        text(x, "damp 1;damp");
        due("what -1", x.fault(-1), NONE);
        due("what 2", x.fault(2), NONE);
        due("what 0 is none such", x.fault(0), 3);
        due("what 1 is none such", x.fault(1), 7);
        due("the least what", x.fault(Integer.MIN_VALUE), NONE);
        due("the most what", x.fault(Integer.MAX_VALUE), NONE);
    }
}
