/** Promises 1 to 4: a new object, feed, text, fault. */
final class TextTest {
    private static final String BOX_A = "box a 1 1 1 1 1 1 1 1 1 1;";
    private static final String BOX_B = "box b 1 1 1 1 1 1 1 1 1 1;";

    public static void main(String[] args) {
        newObject();
        tape();
        textAndTape();
        faultStays();
        tokens();
        tooMuch();
        twice();
        untold();
        laws();
        Check.end();
    }

    private static void newObject() {
        LaughDrum x = new LaughDrum();
        for (int what = 0; what <= 12; what++) {
            Check.due("new count(" + what + ")", x.count(what), 0);
        }
        Check.due("new fault(0)", x.fault(0), 0);
        Check.due("new fault(1)", x.fault(1), -1);
        Check.due("new fault(2)", x.fault(2), -1);
        Check.due("new fault(-1)", x.fault(-1), -1);
        Check.due("new text(1)", x.text(1), -2);
        Check.due("new text(0)", x.text(0), 0);
    }

    private static void tape() {
        LaughDrum x = new LaughDrum();
        for (int i = 1; i <= 35; i++) {
            Check.due("feed " + i, x.feed(i, i, i, i, i), 20 * i);
        }
        Check.due("feed 36", x.feed(0, 0, 0, 0, 0), -1);
        Check.due("text(701)", x.text(701), -2);
        Check.due("text(-1)", x.text(-1), -2);
        Check.due("fault(0) of none", x.fault(0), 0);
        Check.due("text(700)", x.text(700), -1);
        Check.due("fault(0)", x.fault(0), 1);
        Check.due("fault(1)", x.fault(1), 0);
        Check.due("feed when empty", x.feed(0, 0, 0, 0, 0), 20);
    }

    private static void textAndTape() {
        LaughDrum x = new LaughDrum();
        Check.feed(x, "damp 1;seed 2;");
        Check.due("text(21)", x.text(21), -2);
        Check.due("text(7)", x.text(7), 1);
        Check.due("text(1)", x.text(1), -2);
        Check.due("blanks", Check.text(x, " \n damp\n1 \n;\nseed 00002 ;  \n"), 2);
        Check.due("near", Check.text(x, "damp1;seed2;box a1 1 1 1 1 1 1 1 1 1;"), 3);
        Check.due("only blanks", Check.text(x, " \n "), 0);
        Check.due("boxes then", x.count(0), 0);
    }

    private static void faultStays() {
        LaughDrum x = Check.told(BOX_A + "guest g 9 2;law charm 7;damp 100;");
        x.years(3);
        x.wind(0, 5);
        x.keep();
        x.find(0, 1, true);
        Check.due("faulty", Check.text(x, BOX_B + BOX_B), -1);
        Check.due("fault(0)", x.fault(0), 3);
        Check.due("fault(1)", x.fault(1), 30);
        Check.due("tape empty", x.text(1), -2);
        Check.due("fault(0) still", x.fault(0), 3);
        Check.due("boxes", x.count(0), 1);
        Check.due("year", x.count(4), 3);
        Check.due("to undo", x.count(12), 1);
        Check.due("found", x.count(10), 1);
        Check.due("named a", x.named(0, Check.letters("a")), 0);
        Check.due("named b", x.named(0, Check.letters("b")), -1);
        Check.due("guest", x.guest(0, 0), 9);
        Check.due("law", x.law(2, 0), 7);
        Check.due("back", x.back(), 3);
        x.known(0);
        x.steal(0, true);
        Check.due("good", Check.text(x, BOX_B), 1);
        Check.due("fault(0) then", x.fault(0), 0);
        Check.due("fault(1) then", x.fault(1), -1);
        for (int what = 1; what <= 12; what++) {
            Check.due("count(" + what + ") then", x.count(what), 0);
        }
        Check.due("back then", x.back(), -1);
        Check.due("stolen then", x.silent(), 0);
        Check.due("false then", x.box(0, 2), 0);
        x.find(0, 0, true);
        Check.due("all known then", x.count(11), 1);
        Check.due("guests then", x.guest(0, 0), -1);
    }

    private static void tokens() {
        Check.faulty(";", 1, 0);
        Check.faulty("damp 1;;", 1, 7);
        Check.faulty("damp 1", 1, 6);
        Check.faulty("damp 1  ", 1, 8);
        Check.faulty("damp", 1, 4);
        Check.faulty("damp ;", 1, 5);
        Check.faulty("damp 1 1;", 1, 7);
        Check.faulty("damp -1;", 1, 5);
        Check.faulty("damp\t1;", 1, 4);
        Check.faulty("damp 1;\r", 1, 7);
        Check.faulty("Damp 1;", 1, 0);
        Check.faulty("damp 1;\u00e4", 1, 7);
        Check.faulty("damp 1;?", 1, 7);
        Check.faulty("1", 1, 0);
        Check.faulty("wear 1;", 1, 0);
        Check.faulty("kinn a b;", 1, 0);
        Check.faulty("box springs 1 1 1 1 1 1 1 1 1 1;", 1, 4);
        Check.faulty("box abcdefg 1 1 1 1 1 1 1 1 1 1;", 1, 4);
        Check.faulty("box a 1 1 1 1 1 1 1 1 1;", 1, 23);
        Check.faulty("box a 1 1 1 1 1 1 1 1 1 1 1;", 1, 26);
        Check.faulty("box a 1 1 b 1 1 1 1 1 1 1;", 1, 10);
        Check.faulty("guest g 1;", 1, 9);
        Check.faulty(BOX_A + "tooth a;", 1, 33);
        Check.faulty(BOX_A + "kin a;", 1, 31);
        Check.faulty(BOX_A + "kin a 1;", 1, 32);
        String[] language = {"box", "tooth", "kin", "guest", "damp", "seed", "law", "wear", "sour", "charm", "or",
            "and", "not", "spring", "slow", "pins", "false", "teeth", "plays", "year"};
        for (String word : language) {
            Check.faulty("box " + word + " 1 1 1 1 1 1 1 1 1 1;", 1, 4);
            Check.faulty("guest " + word + " 1 1;", 1, 6);
            Check.faulty("tooth " + word + " 1;", 1, 6);
            Check.faulty("kin " + word + " a;", 1, 4);
        }
        Check.due("six letters", Check.told("box abcdef 1 1 1 1 1 1 1 1 1 1;").named(0, Check.letters("abcdef")), 0);
    }

    private static void tooMuch() {
        Check.faulty("box a 100 1 1 1 1 1 1 1 1 1;", 2, 6);
        Check.faulty("box a 99 10 1 1 1 1 1 1 1 1;", 2, 9);
        Check.faulty("box a 99 0 1 1 1 1 1 1 1 1;", 2, 9);
        Check.faulty("box a 1 1 1 1 1 1 1 1 1 10", 2, 24);
        Check.faulty("box a 99999999999999999999 1 1", 2, 6);
        Check.faulty("damp 101", 2, 5);
        Check.faulty("damp 4294967297;", 2, 5);
        Check.faulty("seed 100000;", 2, 5);
        Check.faulty("guest g 100 1;", 2, 8);
        Check.faulty("guest g 99 10;", 2, 11);
        Check.faulty(BOX_A + "tooth a 0;", 2, 34);
        Check.faulty(BOX_A + "tooth a 10;", 2, 34);
        StringBuilder boxes = new StringBuilder();
        for (char c = 'a'; c <= 'f'; c++) {
            boxes.append("box ").append(c).append(" 1 1 1 1 1 1 1 1 1 1;");
        }
        Check.told(boxes.toString());
        Check.faulty(boxes + "box", 2, boxes.length());
        Check.faulty(boxes + " box a 1 1 1 1 1 1 1 1 1 1;", 2, boxes.length() + 1);
        String kin = boxes + "kin a b;kin a c;kin a d;kin a e;kin a f;kin b c;kin b d;kin b e;kin b f;";
        Check.due("nine kin", Check.told(kin).count(1), 9);
        Check.faulty(kin + "kin a b;", 2, kin.length());
        StringBuilder teeth = new StringBuilder(BOX_A + BOX_B);
        for (int i = 0; i < 12; i++) {
            teeth.append("tooth ").append(i < 9 ? 'a' : 'b').append(' ').append(i % 9 + 1).append(';');
        }
        Check.due("twelve teeth", Check.told(teeth.toString()).count(8), 12);
        Check.faulty(teeth + "tooth b 4;", 2, teeth.length());
        String guests = "guest a 1 1;guest b 1 1;guest c 1 1;guest d 1 1;guest e 1 1;";
        Check.due("five guests", Check.told(guests).count(2), 5);
        Check.faulty(guests + "guest f 1 1;", 2, guests.length());
    }

    private static void twice() {
        Check.faulty(BOX_A + BOX_A, 3, 30);
        Check.told(BOX_A + "guest a 1 1;");
        Check.faulty("guest g 1 1;guest g 1 1;", 3, 18);
        Check.faulty(BOX_A + "tooth a 1;tooth a 1;", 3, 44);
        Check.told(BOX_A + BOX_B + "tooth a 1;tooth b 1;");
        Check.faulty(BOX_A + BOX_B + "kin a b;kin a b;", 3, 66);
        Check.faulty(BOX_A + BOX_B + "kin a b;kin b a;", 3, 66);
        Check.faulty("damp 0;damp", 3, 7);
        Check.faulty("seed 0;seed 0;", 3, 7);
        Check.faulty("law sour 1;law sour", 3, 15);
        Check.told("law sour 1;law wear 1;law charm 1;");
    }

    private static void untold() {
        Check.faulty("tooth a 1;" + BOX_A, 4, 6);
        Check.faulty(BOX_A + "kin a b;" + BOX_B, 4, 32);
        Check.faulty(BOX_A + "kin b a;" + BOX_B, 4, 30);
        Check.faulty("guest g 1 1;tooth g 1;", 4, 18);
        Check.faulty(BOX_A + "kin a a;", 5, 32);
    }

    private static void laws() {
        Check.faulty("law 1;", 1, 4);
        Check.faulty("law", 1, 3);
        Check.faulty("law wear", 1, 8);
        Check.faulty("law wear;", 1, 8);
        Check.faulty("law wear 1 2;", 1, 11);
        Check.faulty("law wear 1 +;", 1, 12);
        Check.faulty("law wear + 1;", 1, 9);
        Check.faulty("law wear 1 < 2 < 3;", 1, 15);
        Check.faulty("law wear 1 = 2 + 3 <> 4;", 1, 19);
        Check.faulty("law wear 1 < = 2;", 1, 13);
        Check.faulty("law wear 1 =< 2;", 1, 12);
        Check.faulty("law wear 1 >> 2;", 1, 12);
        Check.faulty("law wear 1 + not 2;", 1, 13);
        Check.faulty("law wear 1 < not 2;", 1, 13);
        Check.faulty("law wear 1 not 2;", 1, 11);
        Check.faulty("law wear (1;", 1, 11);
        Check.faulty("law wear (1", 1, 11);
        Check.faulty("law wear 1);", 1, 10);
        Check.faulty("law wear ();", 1, 10);
        Check.faulty("law wear box;", 1, 9);
        Check.faulty("law wear abc;", 1, 9);
        Check.faulty("law wear 10000;", 2, 9);
        Check.told("law wear 9999;");
        Check.told("law wear 1<2 and 3>4 or not 5<>6 and(1<=2)=(3>=4);");
        Check.told("law wear ((((((((1))))))))+(1);");
        Check.faulty("law wear ((((((((1+(2))))))))));", 2, 19);
        Check.faulty("law wear 1(((((((((", 1, 10);
        String knots = "law wear 0" + "+1".repeat(31) + ";";
        Check.due("knots", Check.told(knots + "law sour 0;").count(3), 64);
        Check.faulty(knots + "law sour 0+;", 2, knots.length() + 10);
        Check.faulty(knots + "law sour 0 0;", 1, knots.length() + 11);
        Check.faulty(knots + "law sour not not", 2, knots.length() + 13);
        Check.faulty(knots + "law sour not and", 1, knots.length() + 13);
        Check.faulty(knots + "law sour 0;law charm year", 2, knots.length() + 21);
        Check.faulty("law sour 0" + "+1".repeat(32) + ";", 2, 73);
        Check.faulty("law sour not 0" + "+1".repeat(31) + "<0;", 2, 76);
        Check.due("brackets are no knots", Check.told("law sour (((1)+(2)));").count(3), 3);
    }
}
