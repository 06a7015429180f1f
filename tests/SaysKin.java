/** What the document says of kin, guests, heirs and winding: promises 24, 27 to 30, 32, 33. */
final class SaysKin extends Check {
    private static final String SIX = SaysText.SIX;
    private static final String SLOW = "box a 1 1 1 1 1 1 1 1 1 1;box b 1 2 1 1 1 1 1 1 1 1;box c 1 3 1 1 1 1 1 1 1 1;"
        + "box d 1 4 1 1 1 1 1 1 1 1;box e 1 5 1 1 1 1 1 1 1 1;box f 1 9 1 1 1 1 1 1 1 1;";

    static void all() {
        test(SaysKin::farOfTerms);
        test(SaysKin::far);
        test(SaysKin::lineOfTerms);
        test(SaysKin::line);
        test(SaysKin::windOfTerms);
        test(SaysKin::windMost);
        test(SaysKin::winding);
        test(SaysKin::stayOfTerms);
        test(SaysKin::stay);
        test(SaysKin::laughBackOfTerms);
        test(SaysKin::laughBack);
        test(SaysKin::key);
        test(SaysKin::restOfTerms);
        test(SaysKin::restsInOrder);
        test(SaysKin::rests);
        test(SaysKin::rest);
    }

    private static void farOfTerms() {
        says("Terms for promise 24", "FAR of two BOXES: the fewest KIN from one to the other.");
        LaughDrum ring = told(SIX + "kin a b;kin b c;kin c d;kin d e;kin e a;");
        int[] due = {0, 1, 2, 2, 1, -2};
        LaughDrum row = told(SIX + "kin f d;kin d b;kin b a;kin a c;kin c e;");
        int[] fromF = {3, 2, 4, 1, 5, 0};
        for (int box = 0; box < 6; box++) {
            due("of a ring, " + box, ring.far(0, box), due[box]);
            due("of a ring, back from " + box, ring.far(box, 0), due[box]);
            due("of a row, " + box, row.far(5, box), fromF[box]);
            due("of a row, back from " + box, row.far(box, 5), fromF[box]);
        }
        due("the shorter way", told(SIX + "kin a b;kin b c;kin c d;kin a d;").far(0, 3), 1);
    }

    private static void far() {
        says("Promise 24", "FAR; 0 from a BOX to itself; -2: they aren't; NONE: no such ones.");
        LaughDrum x = told(SIX + "kin a b;kin b c;kin d e;");
        for (int box = 0; box < 6; box++) {
            due("to itself, " + box, x.far(box, box), 0);
        }
        due("kin", x.far(0, 1), 1);
        due("kin of kin", x.far(2, 0), 2);
        due("another family", x.far(0, 3), -2);
        due("no kin at all", x.far(0, 5), -2);
        due("no kin at all, back", x.far(5, 0), -2);
        within("one", box -> x.far(box, 0), 0, 5, NONE);
        within("other", box -> x.far(0, box), 0, 5, NONE);
        due("itself, no such one", x.far(6, 6), NONE);
    }

    private static void row(String kin, int... row) {
        LaughDrum x = told(SIX + kin);
        // a row of another kind asked ahead leaves nothing behind
        due("join of " + kin, x.join(63, 6), 13);
        due("line(0) of " + kin, x.line(0), row.length);
        for (int i = 1; i <= 6; i++) {
            due("line(" + i + ") of " + kin, x.line(i), i <= row.length ? row[i - 1] : -2);
        }
    }

    private static void lineOfTerms() {
        says("Terms for promise 33", "LINE: the longest row of unlike BOXES, each KIN of the one ahead, of several the first by BOXES.");
        row("", 0);
        row("kin f e;", 4, 5);
        row("kin a b;kin a c;kin a d;", 1, 0, 2);
        row("kin b c;kin c d;kin d b;kin e f;", 1, 2, 3);
        row("kin a b;kin b c;kin c d;kin d e;kin e f;", 0, 1, 2, 3, 4, 5);
        row("kin f e;kin e d;kin d c;kin c b;kin b a;", 0, 1, 2, 3, 4, 5);
        row("kin a f;kin f b;kin b e;kin e c;kin c d;kin d a;", 0, 3, 2, 4, 1, 5);
        row("kin a b;kin b c;kin c a;kin c d;kin d e;kin d f;", 0, 1, 2, 3, 4);
        row("kin a b;kin c d;kin e f;", 0, 1);
        row("kin a b;kin a c;kin a d;kin a e;kin a f;kin b c;kin d e;", 1, 2, 0, 3, 4);
        row("kin d b;kin d c;kin d f;kin f e;", 1, 3, 5, 4);
    }

    private static void line() {
        says("Promise 33", "LINE, what 0: how many BOXES it has, 1 .. 6: the how-manieth (-2: not so many). NONE for another what.");
        LaughDrum six = told(SIX + "kin a b;kin b c;kin c d;kin d e;kin e f;");
        due("six", six.line(0), 6);
        due("the first", six.line(1), 0);
        due("the sixth", six.line(6), 5);
        within("what", what -> six.line(what), 0, 6, NONE);
        LaughDrum five = told(SIX + "kin a b;kin b c;kin c d;kin d e;");
        due("five", five.line(0), 5);
        due("the fifth", five.line(5), 4);
        due("no sixth", five.line(6), -2);
        LaughDrum none = new LaughDrum();
        due("none", none.line(0), 0);
        for (int what = 1; what <= 6; what++) {
            due("none at " + what, none.line(what), -2);
        }
        due("another what of none", none.line(7), NONE);
        due("another what below", none.line(-1), NONE);
    }

    private static void wound(LaughDrum x, int n, int turns, int... due) {
        for (int what = 0; what < due.length; what++) {
            due("winding(" + n + ", " + turns + ", " + what + ")", x.winding(n, turns, what), due[what]);
        }
    }

    private static void windOfTerms() {
        says("Terms for promise 27", "WIND for n YEARS and so many turns: by how many each of the first three BOXES is wound now (all no more than so many in sum; a SPRING is 99 at most),");
        String four = "box a 1 1 1 1 1 1 0 0 0 0;box b 2 1 1 1 1 1 1 0 0 0;box c 98 1 1 1 1 1 1 1 1 1;box d 2 1 1 1 0 0 0 0 0 0;";
        LaughDrum x = told(four);
        // in four years a laughs 4 once, b 5 twice, c 8 four times, d 2 twice
        wound(x, 4, 0, 0, 0, 0, 50);
        wound(x, 4, 1, 0, 1, 0, 55);
        wound(x, 4, 2, 0, 2, 0, 60);
        wound(x, 4, 3, 1, 2, 0, 64);
        wound(x, 4, 5, 3, 2, 0, 72);
        wound(x, 4, 9, 3, 2, 0, 72);
        LaughDrum fourth = told("box a 0 1 0 0 0 0 0 0 0 0;box b 0 1 0 0 0 0 0 0 0 0;box c 0 1 0 0 0 0 0 0 0 1;box d 0 1 1 1 1 1 1 1 1 1;");
        wound(fourth, 9, 9, 0, 0, 9, 9);
        LaughDrum most = told("box a 97 1 1 1 1 1 0 0 0 0;law charm spring;law wear 0;");
        wound(most, 1, 1, 1, -2, -2, 98);
        wound(most, 1, 2, 2, -2, -2, 99);
        wound(most, 1, 3, 2, -2, -2, 99);
        wound(most, 1, 9, 2, -2, -2, 99);
        LaughDrum full = told("box a 99 1 1 1 1 1 0 0 0 0;box b 90 1 1 1 1 1 0 0 0 0;law charm spring;law wear 0;");
        wound(full, 1, 9, 0, 9, -2, 198);
        due("nothing was wound", full.box(1, 0), 90);
        due("nothing can be undone", full.count(12), 0);
    }

    private static void windMost() {
        says("Terms for promise 27", "so that LAUGHTER more of all in these YEARS as it goes is most, of several the first by BOXES (0 turns first).");
        LaughDrum tie = told("box a 1 1 1 1 1 1 0 0 0 0;box b 1 1 1 1 1 1 0 0 0 0;box c 1 1 1 1 1 1 0 0 0 0;");
        wound(tie, 2, 1, 0, 0, 1, 16);
        wound(tie, 3, 3, 0, 1, 2, 24);
        wound(tie, 9, 9, 0, 1, 8, 48);
        wound(tie, 1, 9, 0, 0, 0, 12);
        LaughDrum less = told("box a 1 1 1 1 1 1 0 0 0 0;box b 1 1 1 1 1 1 0 0 0 0;law charm 60 - spring;law wear 9;");
        wound(less, 1, 9, 0, 0, -2, 118);
        LaughDrum some = told("box a 1 1 1 1 1 1 0 0 0 0;law charm 9 - (spring - 4) * (spring - 4);law wear 9;");
        wound(some, 1, 2, 2, -2, -2, 8);
        wound(some, 1, 3, 3, -2, -2, 9);
        wound(some, 1, 9, 3, -2, -2, 9);
        LaughDrum last = told("box a 5 1 1 0 0 0 0 0 0 0;box b 5 1 1 0 0 0 0 0 0 0;box c 5 1 1 0 0 0 0 0 0 0;"
            + "box d 5 1 1 1 0 0 0 0 0 0;box e 5 1 1 1 1 0 0 0 0 0;box f 5 1 1 1 1 1 0 0 0 0;");
        wound(last, 3, 9, 0, 0, 0, 3 * (1 + 1 + 1 + 2 + 3 + 4));
        last.years(1);
        due("laughter more, not all of it", last.winding(3, 0, 3), 3 * 12);
        last.steal(5, true);
        due("one is stolen", last.winding(3, 0, 3), 3 * 8);
        LaughDrum stolen = told("box a 0 1 1 1 1 1 1 1 1 1;box b 0 1 1 0 0 0 0 0 0 0;");
        stolen.steal(0, true);
        wound(stolen, 9, 9, 0, 9, -2, 9);
        LaughDrum damp = told("box a 3 1 1 0 0 0 0 0 0 0;law charm false;damp 50;");
        wound(damp, 5, 9, 2, -2, -2, 0 + 1 + 2 + 3 + 4);
        String four = "box a 3 1 1 0 0 0 0 0 0 0;box b 3 1 1 0 0 0 0 0 0 0;box c 3 1 1 0 0 0 0 0 0 0;box d 3 1 1 0 0 0 0 0 0 0;law charm false * 10 + 1;";
        due("damp of the fourth box, too", told(four + "damp 50;").winding(3, 0, 3), 4 * (1 + 11 + 21));
        due("no damp of the fourth box, either", told(four + "damp 49;").winding(3, 0, 3), 4 * 3);
        LaughDrum dry = told("box a 3 1 1 0 0 0 0 0 0 0;law charm false;damp 49;");
        wound(dry, 5, 9, 0, -2, -2, 0);
        LaughDrum year = told("box a 1 1 1 0 0 0 0 0 0 0;law charm year;");
        wound(year, 3, 9, 2, -2, -2, 0 + 1 + 2);
    }

    private static void winding() {
        says("Promise 27", "WIND (n 1 .. 20, turns 0 .. 9), what 0 .. 2: turns of the first BOX, and so on (-2: not so many), 3: LAUGHTER. NONE: no such ones.");
        LaughDrum x = told("box a 1 1 1 1 1 1 0 0 0 0;box b 1 1 1 1 1 0 0 0 0 0;box c 1 1 1 1 0 0 0 0 0 0;");
        wound(x, 1, 0, 0, 0, 0, 9);
        wound(x, 1, 9, 0, 0, 0, 9);
        wound(x, 20, 0, 0, 0, 0, 9);
        wound(x, 20, 9, 9, 0, 0, 45);
        wound(x, 5, 9, 4, 4, 1, 4 * 5 + 3 * 5 + 2 * 2);
        within("n", n -> x.winding(n, 9, 3), 1, 20, NONE);
        within("turns, laughter", turns -> x.winding(1, turns, 3), 0, 9, NONE);
        within("turns, the first box's", turns -> x.winding(1, turns, 0), 0, 9, NONE);
        LaughDrum six = told(SIX);
        within("turns, laughter of six", turns -> six.winding(1, turns, 3), 0, 9, NONE);
        within("what", what -> x.winding(1, 1, what), 0, 3, NONE);
        String[] texts = {"", "box a 1 1 1 1 1 1 0 0 0 0;", "box a 1 1 1 1 1 1 0 0 0 0;box b 1 1 1 1 1 1 0 0 0 0;"};
        for (int boxes = 0; boxes < 3; boxes++) {
            LaughDrum fewer = told(texts[boxes]);
            for (int what = 0; what < 3; what++) {
                due("of " + boxes + ", " + what, fewer.winding(1, 9, what), what < boxes ? 0 : -2);
            }
            due("laughter of " + boxes, fewer.winding(1, 9, 3), 4 * boxes);
            due("no such what of " + boxes, fewer.winding(1, 9, 4), NONE);
            due("no such n of " + boxes, fewer.winding(0, 9, 2), NONE);
            due("no such turns of " + boxes, fewer.winding(1, 10, 2), NONE);
        }
    }

    private static void stayOfTerms() {
        says("Terms for promise 32", "STAY for BOXES that are let go one behind another: GUESTS (bits) whose WAIT is eight times all their SLOW in sum at least.");
        LaughDrum x = told(SLOW + "guest g 0 0;guest h 24 0;guest i 23 0;guest j 99 0;guest k 8 0;");
        due("a: 8", x.stay(1), 2 | 4 | 8 | 16);
        due("b: 16", x.stay(2), 2 | 4 | 8);
        due("c: 24", x.stay(4), 2 | 8);
        due("a, b: 24", x.stay(3), 2 | 8);
        due("d: 32", x.stay(8), 8);
        due("f: 72", x.stay(32), 8);
        due("a, b, f: 96", x.stay(35), 8);
        due("b, c, f: 112", x.stay(38), 0);
        due("all: 192", x.stay(63), 0);
        x.steal(0, true);
        due("one that is stolen", x.stay(1), 2 | 4 | 8 | 16);
    }

    private static void stay() {
        says("Promise 32", "STAY for BOXES (bits; nobody goes for none); NONE: no such ones.");
        LaughDrum x = told(SLOW + "guest g 0 0;guest h 99 9;");
        due("none", x.stay(0), 3);
        due("none, nobody is there", told(SLOW).stay(0), 0);
        within("boxes", boxes -> x.stay(boxes), 0, 63, NONE);
        LaughDrum one = told("box a 1 1 1 1 1 1 1 1 1 1;guest g 8 0;");
        within("boxes of one", boxes -> one.stay(boxes), 0, 1, NONE);
        LaughDrum nothing = told("guest g 0 0;");
        within("boxes of none", boxes -> nothing.stay(boxes), 0, 0, NONE);
        due("the fifth guest", told(SaysText.FIVE_GUESTS).stay(0), 31);
    }

    private static void laughBackOfTerms() {
        says("Terms for promise 28", "LAUGH BACK: GUESTS (bits) who may at a BOX: those whose DEGREE is FAR of it from BOX 0 at least (nobody, if it isn't kin at all) and whose WAIT is eight times its SLOW at least.");
        LaughDrum x = told(SLOW + "kin a b;kin b c;kin e d;guest g 16 0;guest h 16 1;guest i 24 2;guest j 23 9;guest k 7 9;");
        due("box 0: degree 0, wait 8", x.laughBack(0), 1 | 2 | 4 | 8);
        due("box 1: degree 1, wait 16", x.laughBack(1), 2 | 4 | 8);
        due("box 2: degree 2, wait 24", x.laughBack(2), 4);
        LaughDrum unlike = told(SLOW + "kin b c;guest g 99 9;guest h 99 0;");
        for (int box = 1; box < 6; box++) {
            due("not kin at all, " + box, unlike.laughBack(box), 0);
        }
        due("kin of itself", unlike.laughBack(0), 3);
        LaughDrum row = told(SIX + "kin a b;kin b c;kin c d;kin d e;kin e f;guest g 8 4;guest h 8 5;guest i 7 9;guest j 99 9;");
        due("four away", row.laughBack(4), 1 | 2 | 8);
        due("five away", row.laughBack(5), 2 | 8);
        LaughDrum slow = told("box a 1 9 1 1 1 1 1 1 1 1;guest g 71 0;guest h 72 0;");
        due("wait 71 and 72", slow.laughBack(0), 2);
    }

    private static void laughBack() {
        says("Promise 28", "LAUGH BACK (bits); NONE: no such BOX.");
        LaughDrum x = told(SIX + "kin a f;" + SaysText.FIVE_GUESTS.replace(" 1 1", " 8 1"));
        due("all five", x.laughBack(5), 31);
        within("box", box -> x.laughBack(box), 0, 5, NONE);
        due("none told", told(SaysText.FIVE_GUESTS).laughBack(0), NONE);
        due("nobody told", told(SIX).laughBack(0), 0);
    }

    /** What an heir has by these bids, as the document tells it. */
    private static int has(int laughter, int bid, int other) {
        return bid > other ? laughter - bid : bid == other ? laughter / 2 - bid : 0;
    }

    private static boolean isRest(int laughter, int one, int other) {
        for (int bid = 0; bid <= 4; bid++) {
            if (has(laughter, bid, other) > has(laughter, one, other) || has(laughter, bid, one) > has(laughter, other, one)) {
                return false;
            }
        }
        return true;
    }

    private static void key() {
        says("Terms for promise 29", "KEY of two heirs: each bids 0 .. 4 for a BOX: who bids more has LAUGHTER of it in this YEAR as it goes, less the bid; alike: each has half of it, cut, less the bid; who bids less has 0.");
        for (int laughter = 0; laughter <= 99; laughter++) {
            LaughDrum x = told("box a 9 1 1 1 1 1 1 1 1 1;law charm " + laughter + ";");
            int k = 0;
            for (int bids = 0; bids < 25; bids++) {
                if (isRest(laughter, bids / 5, bids % 5)) {
                    due("rest " + k + " of " + laughter, x.rest(0, k), bids / 5 * 10 + bids % 5);
                    k++;
                }
            }
            due("rests of " + laughter, x.rests(0), k);
        }
        // 4 is the most bid: else two heirs of 99 would go on to bid
        due("4 against 4", told("box a 9 1 1 1 1 1 1 1 1 1;law charm 99;").rest(0, 0), 44);
        LaughDrum year = told("box a 9 1 1 1 1 1 1 1 1 1;law charm (year = 1) * 99 + (year > 1) * 6;");
        due("in year 0", year.rest(0, 0), 0);
        year.years(1);
        due("in this year", year.rest(0, 0), 44);
        year.years(1);
        due("in this year alone, not so far", year.rest(0, 0), 34);
        year.steal(0, true);
        due("stolen", year.rest(0, 0), 0);
        LaughDrum down = told("box a 0 1 1 1 1 1 1 1 1 1;law charm 99;");
        due("at spring 0", down.rest(0, 0), 0);
    }

    private static void rests(int laughter, int... due) {
        LaughDrum x = told("box a 9 1 1 1 1 1 1 1 1 1;law charm " + laughter + ";");
        due("rests of " + laughter, x.rests(0), due.length);
        for (int k = 0; k < due.length; k++) {
            due("rest " + k + " of " + laughter, x.rest(0, k), due[k]);
        }
        due("no more of " + laughter, x.rest(0, due.length), -2);
    }

    private static void restOfTerms() {
        says("Terms for promise 29", "A REST: neither would have more by another bid.");
        // of 2 each has 1 by 0 and 0, and would have 1 by a bid of 1 against 0: that is no more
        rests(0, 0);
        rests(2, 0, 1, 10, 11, 12, 21);
        rests(8, 34, 43, 44);
        rests(99, 44);
    }

    private static void restsInOrder() {
        says("Terms for promise 30", "RESTS: by the first one's, then the second one's.");
        rests(1, 0, 1, 10);
        rests(3, 12, 21, 23, 32);
        rests(4, 23, 32, 34, 43);
        rests(6, 34, 43);
        rests(7, 34, 43);
    }

    private static void rests() {
        says("Promise 29", "How many RESTS a KEY has; NONE: no such BOX.");
        LaughDrum x = told(SIX + "law charm 4;");
        due("of 4", x.rests(5), 4);
        within("box", box -> x.rests(box), 0, 5, NONE);
        x.years(1);
        due("of 0", x.rests(5), 1);
        due("none told", new LaughDrum().rests(0), NONE);
    }

    private static void rest() {
        says("Promise 30", "The k-th: ten times the first one's bid and the second one's; -2: there are no so many; NONE likewise, k is below 0.");
        LaughDrum x = told(SIX + "law charm 4;");
        due("the 0th", x.rest(0, 0), 23);
        due("the 3rd, the last", x.rest(0, 3), 43);
        due("a 4th", x.rest(0, 4), -2);
        due("the most k", x.rest(0, Integer.MAX_VALUE), -2);
        due("k -1", x.rest(0, -1), NONE);
        due("the least k", x.rest(0, Integer.MIN_VALUE), NONE);
        within("box", box -> x.rest(box, 0), 0, 5, NONE);
        due("no such box, no so many", x.rest(6, 99), NONE);
        due("no such box, k -1", x.rest(6, -1), NONE);
    }
}
