import java.util.Arrays;
import java.util.Random;

/** What the document says of two boxes and of all by what is heard of them: promises 17, 18, 20 to 23, 25, 34. */
final class SaysAlike extends Check {
    private static final String SIX = SaysText.SIX;
    private static final String TURNED = "box a 1 1 1 2 3 4 5 6 7 8;box b 1 1 8 1 2 3 4 5 6 7;";

    static void all() {
        test(SaysAlike::alikeOfTerms);
        test(SaysAlike::alike);
        test(SaysAlike::likeOfTerms);
        test(SaysAlike::like);
        test(SaysAlike::fillOfTerms);
        test(SaysAlike::fillOfSeveral);
        test(SaysAlike::fill);
        test(SaysAlike::joinInOrder);
        test(SaysAlike::joinLaid);
        test(SaysAlike::joinShortest);
        test(SaysAlike::join);
        test(SaysAlike::duetOfMinutes);
        test(SaysAlike::duetByThen);
        test(SaysAlike::duet);
        test(SaysAlike::treeOfTerms);
        test(SaysAlike::tree);
        test(SaysAlike::quoteOfTerms);
        test(SaysAlike::quote);
        test(SaysAlike::forgedOfTerms);
        test(SaysAlike::forged);
    }

    private static void alikeOfTerms() {
        says("Terms for promise 17", "ALIKE of two BOXES by a TURN 0 .. 7: at how many places k of eight what is HEARD of the first one at k and of the second one at (k and TURN modulo 8) is the same and above 0.");
        LaughDrum x = told(TURNED + "box c 1 1 0 0 0 0 0 0 0 0;box d 1 1 1 2 3 4 5 6 7 0;");
        for (int turn = 0; turn < 8; turn++) {
            due("itself by " + turn, x.alike(0, 0, turn), turn == 0 ? 8 : 0);
            due("the first at k, the second at k and " + turn, x.alike(0, 1, turn), turn == 1 ? 8 : 0);
            due("the other way round by " + turn, x.alike(1, 0, turn), turn == 7 ? 8 : 0);
            due("silence by " + turn, x.alike(2, 2, turn), 0);
        }
        due("seven", x.alike(0, 3, 0), 7);
        due("modulo 8: 7 at 6, 0 at 7, 1 .. 6", x.alike(3, 1, 1), 7);
        LaughDrum y = told("box a 1 1 9 0 0 0 0 0 0 1;box b 1 1 1 0 0 0 0 0 0 9;damp 100;");
        due("the last place and the first one", y.alike(0, 1, 1), 1);
        due("the first place and the last one", y.alike(0, 1, 7), 1);
        y.tooth(0, 1, true);
        due("one isn't heard", y.alike(0, 1, 1), 0);
        y.tooth(1, 1, true);
        due("both aren't heard", y.alike(0, 1, 1), 0);
        LaughDrum z = told("box a 1 1 8 8 8 8 8 8 8 8;box b 1 1 9 9 9 9 9 9 9 9;damp 100;");
        z.years(4);
        due("heard 8 and 9", z.alike(0, 1, 0), 0);
        z.years(1);
        due("heard 9 and 9", z.alike(0, 1, 0), 8);
    }

    private static void alike() {
        says("Promise 17", "ALIKE; NONE: no such ones (TURN 0 .. 7).");
        LaughDrum x = told(SIX);
        due("alike(5, 0, 7)", x.alike(5, 0, 7), 8);
        within("turn", turn -> x.alike(0, 1, turn), 0, 7, NONE);
        within("one", box -> x.alike(box, 1, 0), 0, 5, NONE);
        within("other", box -> x.alike(0, box, 0), 0, 5, NONE);
        due("none told", new LaughDrum().alike(0, 0, 0), NONE);
    }

    private static void likeOfTerms() {
        says("Terms for promise 18", "LIKE: the TURN by which that is most, the first of several.");
        LaughDrum x = told(TURNED + "box c 1 1 0 0 0 0 0 0 0 0;box d 1 1 1 2 1 2 1 2 1 2;box e 1 1 2 1 2 1 2 1 2 1;box f 1 1 1 1 1 1 1 1 1 1;");
        due("1 alone", x.like(0, 1, 0), 1);
        due("7 alone", x.like(1, 0, 0), 7);
        due("0 alone", x.like(0, 0, 0), 0);
        due("0 of 0, 2, 4, 6", x.like(3, 3, 0), 0);
        due("1 of 1, 3, 5, 7", x.like(3, 4, 0), 1);
        due("0 of all, 8", x.like(5, 5, 0), 0);
        due("0 of all, none", x.like(2, 0, 0), 0);
        due("at none", x.like(2, 0, 1), 0);
        due("at eight", x.like(3, 4, 1), 8);
        due("at four by all", x.like(3, 5, 1), 4);
        due("the first of these", x.like(3, 5, 0), 0);
    }

    private static void like() {
        says("Promise 18", "LIKE, what 0: the TURN, 1: at how many. NONE: no such ones.");
        LaughDrum x = told(TURNED);
        due("the turn", x.like(1, 0, 0), 7);
        due("at how many", x.like(1, 0, 1), 8);
        within("what", what -> x.like(0, 1, what), 0, 1, NONE);
        within("one", box -> x.like(box, 0, 0), 0, 1, NONE);
        within("other", box -> x.like(0, box, 0), 0, 1, NONE);
    }

    private static void fillOfTerms() {
        says("Terms for promise 20", "FILL of a BOX and a TOOTH 1 .. 9 that is MISSING: the number 1 .. 9 that, HEARD at all places where the drum has that PIN, makes ALIKE by TURN 0 with all its KIN most in sum,");
        String kin = "box b 1 1 1 9 9 2 7 7 7 7;box c 1 1 9 9 9 9 9 9 9 9;kin b a;";
        due("of its kin alone", told("box a 1 1 1 3 3 3 4 4 4 4;" + kin + "tooth a 3;").fill(0, 3), 9);
        due("another pin", told("box a 1 1 1 3 3 3 4 4 4 4;" + kin + "tooth a 4;").fill(0, 4), 7);
        due("pin 1", told("box a 1 1 3 3 3 1 4 4 4 4;" + kin + "tooth a 1;").fill(0, 1), 2);
        due("pin 9", told("box a 1 1 9 3 3 1 4 4 4 4;" + kin + "tooth a 9;").fill(0, 9), 1);
        LaughDrum x = told("box a 1 1 1 2 2 2 5 6 7 8;box b 1 1 0 9 4 4 5 6 7 8;box c 1 1 1 9 9 2 1 1 1 1;kin a b;kin c a;tooth a 2;");
        due("in sum: 9 thrice, 4 twice", x.fill(0, 2), 9);
        x.tooth(1, 9, true);
        due("what isn't heard is no number: 4 twice, 9 twice", x.fill(0, 2), 4);
        x.tooth(2, 9, true);
        due("4 twice alone", x.fill(0, 2), 4);
        LaughDrum y = told("box a 1 1 3 0 0 0 0 0 0 0;box b 1 1 8 0 0 0 0 0 0 0;kin a b;tooth a 3;damp 100;");
        due("8 is heard of its kin", y.fill(0, 3), 8);
        y.years(5);
        due("9 is heard of its kin then", y.fill(0, 3), 9);
        LaughDrum six = told(drums("11111111", "22222222", "33333333", "44444444", "55555555", "66666666") + "kin a f;tooth a 1;");
        due("of the last box", six.fill(0, 1), 6);
        LaughDrum first = told("box a 1 1 1 1 6 6 6 6 7 7;box b 1 1 2 2 2 2 2 2 2 2;kin b a;tooth b 2;");
        due("of the first box", first.fill(1, 2), 6);
    }

    private static void fillOfSeveral() {
        says("Terms for promise 20", "of several the least.");
        due("without kin", told("box a 1 1 3 3 3 3 3 3 3 3;box b 1 1 7 7 7 7 7 7 7 7;tooth a 3;").fill(0, 3), 1);
        due("without such a pin", told("box a 1 1 3 3 3 3 3 3 3 3;box b 1 1 7 7 7 7 7 7 7 7;kin a b;tooth a 2;").fill(0, 2), 1);
        due("kin without a sound there", told("box a 1 1 3 3 1 1 1 1 1 1;box b 1 1 0 0 7 7 7 7 7 7;kin a b;tooth a 3;").fill(0, 3), 1);
        due("9 and 8 once each", told("box a 1 1 3 3 1 1 1 1 1 1;box b 1 1 9 8 7 7 7 7 7 7;kin a b;tooth a 3;").fill(0, 3), 8);
        due("9 twice, 8 once", told("box a 1 1 3 3 3 1 1 1 1 1;box b 1 1 9 8 9 7 7 7 7 7;kin a b;tooth a 3;").fill(0, 3), 9);
    }

    private static void fill() {
        says("Promise 20", "FILL; -2: that TOOTH isn't MISSING; NONE: no such ones.");
        LaughDrum x = told(SIX + "tooth a 1;tooth a 9;tooth f 9;");
        due("tooth 1", x.fill(0, 1), 1);
        due("tooth 9", x.fill(5, 9), 1);
        due("tooth 2 isn't missing", x.fill(0, 2), -2);
        due("tooth 8 isn't missing", x.fill(0, 8), -2);
        x.tooth(0, 9, false);
        due("tooth 9 is set", x.fill(0, 9), -2);
        x.tooth(0, 2, true);
        due("tooth 2 is broken", x.fill(0, 2), 1);
        within("tooth", tooth -> x.fill(0, tooth), 1, 9, NONE);
        within("box", box -> x.fill(box, 9), 0, 5, NONE);
        due("tooth 33", x.fill(0, 33), NONE);
        due("tooth -31", x.fill(0, -31), NONE);
    }

    private static void joinInOrder() {
        says("Terms for promise 21", "JOIN of BOXES (bits): all one behind another, in an order,");
        LaughDrum x = told("box a 1 1 1 1 1 1 1 1 1 1;box b 1 1 2 2 2 2 2 2 2 2;box c 1 1 3 3 3 3 3 3 3 3;"
            + "box d 1 1 4 4 4 4 4 4 4 4;box e 1 1 5 5 5 5 5 5 5 5;box f 1 1 6 6 6 6 6 6 6 6;");
        for (int boxes = 0; boxes < 64; boxes++) {
            due("join(" + boxes + ", 6)", x.join(boxes, 6), 8 * Integer.bitCount(boxes));
            int at = 0;
            for (int box = 0; box < 6; box++) {
                if ((boxes >> box & 1) == 1) {
                    due("join(" + boxes + ", " + at + ")", x.join(boxes, at), box);
                    at++;
                }
            }
        }
    }

    private static void laid(String ahead, String behind, int length, int first) {
        LaughDrum x = told("box a 1 1 " + ahead + ";box b 1 1 " + behind + ";");
        due(ahead + " and " + behind, x.join(3, 6), length);
        due("the first of " + ahead + " and " + behind, x.join(3, 0), first);
    }

    private static void joinLaid() {
        says("Terms for promise 21", "each laid on the last ones HEARD of the one ahead (as many, 7 at most, as are the same as its first ones, 0 too),");
        laid("1 2 3 4 5 6 7 8", "9 9 9 9 9 9 9 9", 16, 0);
        laid("1 2 3 4 5 6 7 8", "8 9 9 9 9 9 9 9", 15, 0);
        laid("8 9 9 9 9 9 9 9", "1 2 3 4 5 6 7 8", 15, 1);
        laid("1 2 3 4 5 6 7 8", "3 4 5 6 7 8 9 9", 10, 0);
        laid("1 2 3 4 5 6 7 8", "2 3 4 5 6 7 8 9", 9, 0);
        laid("1 2 3 4 5 6 7 8", "1 2 3 4 5 6 7 8", 16, 0);
        laid("1 1 1 1 1 1 1 1", "1 1 1 1 1 1 1 1", 9, 0);
        laid("1 2 1 2 1 2 1 2", "1 2 1 2 1 2 1 2", 10, 0);
        laid("5 5 5 5 5 1 1 1", "1 1 9 9 9 9 9 9", 14, 0);
        laid("9 9 9 9 9 9 0 0", "0 0 8 8 8 8 8 8", 14, 0);
        laid("0 0 0 0 0 0 0 0", "0 0 0 0 0 0 0 0", 9, 0);
        laid("1 2 3 4 5 6 7 8", "7 9 9 9 9 9 9 9", 16, 0);
        LaughDrum x = told("box a 1 1 1 1 1 1 1 1 8 8;box b 1 1 9 9 2 2 2 2 2 2;damp 100;");
        due("8 and 9", x.join(3, 6), 16);
        x.years(5);
        due("both are heard 9", x.join(3, 6), 14);
        x.tooth(0, 8, true);
        due("0 and 9", x.join(3, 6), 16);
        x.tooth(1, 9, true);
        due("both aren't heard", x.join(3, 6), 14);
    }

    private static void joinShortest() {
        says("Terms for promise 21", "so that the row is shortest, of several the first by BOXES.");
        LaughDrum x = told("box a 1 1 5 6 7 8 1 1 1 1;box b 1 1 1 1 1 2 3 4 5 6;box c 1 1 1 1 1 1 1 1 1 1;");
        // laid on one another: b on a three, a on b two, c on a four, b on c three
        int[][] due = {{3, 13, 0, 1}, {5, 12, 0, 2}, {6, 13, 2, 1}, {7, 17, 0, 2, 1}};
        for (int[] row : due) {
            due("join(" + row[0] + ", 6)", x.join(row[0], 6), row[1]);
            for (int at = 2; at < row.length; at++) {
                due("join(" + row[0] + ", " + (at - 2) + ")", x.join(row[0], at - 2), row[at]);
            }
        }
        LaughDrum same = told(SIX + "kin a b;kin b f;");
        due("a line asked ahead leaves nothing behind", same.line(0), 3);
        due("all the same", same.join(63, 6), 13);
        LaughDrum six = told("box a 1 1 5 5 5 5 5 5 6 6;box b 1 1 4 4 4 4 4 4 5 5;box c 1 1 3 3 3 3 3 3 4 4;"
            + "box d 1 1 2 2 2 2 2 2 3 3;box e 1 1 1 1 1 1 1 1 2 2;box f 1 1 9 9 9 9 9 9 1 1;");
        due("the other way round", six.join(63, 6), 38);
        for (int i = 0; i < 6; i++) {
            due("the first of those of all", same.join(63, i), i);
            due("the other way round at " + i, six.join(63, i), 5 - i);
        }
        Random random = new Random(3);
        for (int i = 0; i < 60; i++) {
            byAllOrders(random);
        }
        LaughDrum tie = told("box a 1 1 1 1 1 1 1 1 1 2;box b 1 1 4 4 4 4 4 4 4 4;box c 1 1 3 3 3 3 3 3 3 1;");
        due("several: 0 behind 2", tie.join(7, 6), 23);
        due("several: the first", tie.join(7, 0), 1);
        due("several: the second", tie.join(7, 1), 2);
        due("several: the third", tie.join(7, 2), 0);
    }

    /** Six drums by chance that often overlap, their shortest row sought among all 720 orders. */
    private static void byAllOrders(Random random) {
        String[] drums = new String[6];
        for (int box = 0; box < 6; box++) {
            StringBuilder drum = new StringBuilder();
            for (int k = 0; k < 8; k++) {
                drum.append(random.nextInt(3) == 0 ? 1 : 0);
            }
            drums[box] = drum.toString();
        }
        LaughDrum x = told(drums(drums));
        int boxes = random.nextInt(64);
        int[] best = shortest(drums, boxes, new int[0], 0);
        due("length of " + boxes, x.join(boxes, 6), best[best.length - 1]);
        for (int at = 0; at < best.length - 1; at++) {
            due("at " + at + " of " + boxes, x.join(boxes, at), best[at]);
        }
    }

    /** The first shortest row that goes on like that one; its length behind it. */
    private static int[] shortest(String[] drums, int left, int[] row, int length) {
        if (left == 0) {
            int[] found = Arrays.copyOf(row, row.length + 1);
            found[row.length] = length;
            return found;
        }
        int[] best = null;
        for (int box = 0; box < 6; box++) {
            if ((left >> box & 1) == 1) {
                int[] longer = Arrays.copyOf(row, row.length + 1);
                longer[row.length] = box;
                int same = row.length == 0 ? 0 : 7;
                while (same > 0 && !drums[row[row.length - 1]].endsWith(drums[box].substring(0, same))) {
                    same--;
                }
                int[] found = shortest(drums, left & ~(1 << box), longer, length + 8 - same);
                if (best == null || found[found.length - 1] < best[best.length - 1]) {
                    best = found;
                }
            }
        }
        return best;
    }

    private static void join() {
        says("Promise 21", "JOIN of BOXES, what 0 .. 5: the BOX that is the how-manieth (-2: not so many), 6: how long the row is (0 for none). NONE: no such ones.");
        LaughDrum x = told(SIX);
        for (int what = 0; what <= 5; what++) {
            due("of six, " + what, x.join(63, what), what);
            due("of two, " + what, x.join(34, what), what == 0 ? 1 : what == 1 ? 5 : -2);
            due("of one, " + what, x.join(32, what), what == 0 ? 5 : -2);
            due("of none, " + what, x.join(0, what), -2);
        }
        due("how long six are", x.join(63, 6), 13);
        due("how long one is", x.join(32, 6), 8);
        due("how long none is", x.join(0, 6), 0);
        within("what", what -> x.join(63, what), 0, 6, NONE);
        within("boxes", boxes -> x.join(boxes, 6), 0, 63, NONE);
        LaughDrum two = told(TURNED);
        within("boxes of two", boxes -> two.join(boxes, 6), 0, 3, NONE);
        LaughDrum none = new LaughDrum();
        within("boxes of none", boxes -> none.join(boxes, 6), 0, 0, NONE);
        due("no such what of none", none.join(0, 7), NONE);
    }

    private static void duetOfMinutes() {
        says("Terms for promise 22", "DUET of two BOXES set off at minute 0: a BOX's k-th (0 up, again from the first one on) begins at minute k times SLOW and sounds SLOW minutes:");
        due("at minute 0", told("box a 1 1 1 2 3 4 5 6 7 8;box b 1 9 1 0 0 0 0 0 0 0;").duet(1, 0), 0);
        // b sounds 8 at minutes 9 .. 17, a at 7, 15, ..
        LaughDrum x = told("box a 1 1 1 2 3 4 5 6 7 8;box b 1 9 9 8 9 9 9 9 9 9;");
        due("again from the first one on", x.duet(0, 1), 15);
        due("either way", x.duet(1, 0), 15);
        // a sounds at 9 .. 17 and is silent else, b at 8 k to 8 k and 7
        due("its first minute", told("box a 1 9 0 1 0 0 0 0 0 0;box b 1 8 1 1 1 1 1 1 1 1;").duet(0, 1), 9);
        due("the second's first minute", told("box a 1 9 0 1 0 0 0 0 0 0;box b 1 8 0 0 1 1 1 1 1 1;").duet(0, 1), 16);
        due("the second one from the first one on again", told("box a 1 9 0 1 0 0 0 0 0 0;box b 1 1 0 1 0 0 0 0 0 0;").duet(0, 1), 9);
        due("a minute later is none of its", told("box a 1 2 0 1 0 0 0 0 0 0;box b 1 1 0 0 0 0 1 0 0 0;").duet(0, 1), -2);
        due("its last minute of two", told("box a 1 2 0 1 0 0 0 0 0 0;box b 1 1 0 0 0 1 0 0 0 0;").duet(0, 1), 3);
        due("its eighth", told("box a 1 9 0 0 0 0 0 0 0 1;box b 1 8 1 0 0 0 0 0 0 0;").duet(0, 1), 64);
    }

    private static void duetByThen() {
        says("Terms for promise 22", "the first minute, 999 at most, in which both sound the same above 0.");
        // all comes again in 576 minutes at most, so none of two drums can meet later than these do
        due("never the same", told("box a 1 9 0 0 0 0 0 0 0 1;box b 1 8 0 0 0 0 0 0 2 0;").duet(0, 1), -2);
        due("the latest that can be", told("box a 1 9 0 0 0 0 0 0 0 2;box b 1 8 0 0 0 0 0 0 2 0;").duet(0, 1), 496);
        due("silence of both is none", told("box a 1 1 0 0 0 0 0 0 0 0;box b 1 1 0 0 0 0 0 0 0 0;").duet(0, 1), -2);
        LaughDrum x = told("box a 1 1 1 0 0 0 0 0 0 3;box b 1 1 1 0 0 0 0 0 0 3;");
        due("the first", x.duet(0, 1), 0);
        x.tooth(0, 1, true);
        due("one isn't heard", x.duet(0, 1), 7);
        x.tooth(1, 1, true);
        due("both aren't heard", x.duet(0, 1), 7);
        x.tooth(1, 3, true);
        due("never", x.duet(0, 1), -2);
    }

    private static void duet() {
        says("Promise 22", "DUET; -2: not by then; NONE: no such ones, alike.");
        LaughDrum x = told(SIX.replace("box f 1 1 1 1 1 1 1 1 1 1", "box f 1 1 0 0 0 0 0 0 0 0"));
        due("two", x.duet(0, 1), 0);
        due("not by then", x.duet(0, 5), -2);
        for (int box = 0; box < 6; box++) {
            due("alike, " + box, x.duet(box, box), NONE);
        }
        within("one", box -> x.duet(box, 1), 0, 5, NONE);
        within("other", box -> x.duet(1, box), 0, 5, NONE);
        due("alike, no such one", x.duet(6, 6), NONE);
    }

    private static void treeOfTerms() {
        says("Terms for promise 23", "TREE: the KIN there would be, if each BOX were led to all others by the fewest unlike places in sum (8 less ALIKE by TURN 0, both ways the same): that sum.");
        LaughDrum x = told("box a 1 1 1 1 1 1 2 2 2 2;box b 1 1 1 1 1 1 3 3 3 3;box c 1 1 4 4 4 4 3 3 3 3;"
            + "box d 1 1 1 1 1 5 3 3 3 3;");
        // a-b 4, a-c 8, a-d 5, b-c 4, b-d 1, c-d 4
        due("four", x.tree(), 4 + 4 + 1);
        x.tooth(1, 3, true);
        // a-b 4, a-c 8, a-d 5, b-c 8, b-d 5, c-d 4
        due("without a tooth", x.tree(), 4 + 5 + 4);
        due("the same", told(SIX).tree(), 0);
        due("nothing in common", told("box a 1 1 1 1 1 1 1 1 1 1;box b 1 1 2 2 2 2 2 2 2 2;box c 1 1 3 3 3 3 3 3 3 3;").tree(), 16);
        due("silence isn't alike", told("box a 1 1 0 0 0 0 0 0 0 0;box b 1 1 0 0 0 0 0 0 0 0;").tree(), 8);
        due("kin as told don't count", told(SIX.replace("box f 1 1 1", "box f 1 1 2") + "kin a f;").tree(), 1);
        // a row a-b-c-d-e-f of one step each, told in another order
        due("a row", told("box a 1 1 1 1 1 1 1 1 1 1;box b 1 1 2 2 2 2 2 1 1 1;box c 1 1 2 1 1 1 1 1 1 1;"
            + "box d 1 1 2 2 2 2 1 1 1 1;box e 1 1 2 2 1 1 1 1 1 1;box f 1 1 2 2 2 1 1 1 1 1;").tree(), 5);
        due("two heaps", told("box a 1 1 1 1 1 1 1 1 1 1;box b 1 1 5 5 5 5 5 5 5 5;box c 1 1 1 1 1 1 1 1 1 2;"
            + "box d 1 1 5 5 5 5 5 5 5 2;").tree(), 1 + 1 + 7);
    }

    private static void tree() {
        says("Promise 23", "TREE (0 for less than two).");
        due("none", new LaughDrum().tree(), 0);
        due("one", told("box a 1 1 1 2 3 4 5 6 7 8;").tree(), 0);
        due("two", told("box a 1 1 1 1 1 1 1 1 1 1;box b 1 1 2 2 2 2 2 2 2 2;").tree(), 8);
    }

    private static void quoteOfTerms() {
        says("Terms for promise 34", "QUOTE: how long the longest run of places of a BOX is, all HEARD above 0, that is HEARD in a row of places of the other one, too (neither goes around).");
        LaughDrum x = told("box a 1 1 1 2 3 0 5 6 7 8;box b 1 1 5 6 7 8 0 1 2 3;box c 1 1 8 1 2 0 3 0 5 6;"
            + "box d 1 1 0 0 0 0 0 0 0 0;box e 1 1 1 2 3 0 5 6 7 8;");
        due("four at other places", x.quote(0, 1), 4);
        due("either way", x.quote(1, 0), 4);
        due("two of these", x.quote(0, 2), 2);
        due("nothing above 0", x.quote(0, 3), 0);
        due("silence twice", told("box a 1 1 0 0 0 0 0 0 0 0;box b 1 1 0 0 0 0 0 0 0 0;").quote(0, 1), 0);
        due("a 0 breaks a run", x.quote(0, 4), 4);
        due("all eight", told(SIX).quote(0, 5), 8);
        due("none goes around", told("box a 1 1 7 8 0 0 0 0 5 6;box b 1 1 0 5 6 7 8 0 0 0;").quote(0, 1), 2);
        due("nor the other one", told("box a 1 1 0 5 6 7 8 0 0 0;box b 1 1 7 8 0 0 0 0 5 6;").quote(0, 1), 2);
        due("one at the last place and the first", told("box a 1 1 0 0 0 0 0 0 0 4;box b 1 1 4 0 0 0 0 0 0 0;").quote(0, 1), 1);
        x.tooth(0, 7, true);
        due("without a tooth", x.quote(0, 1), 3);
    }

    private static void quote() {
        says("Promise 34", "QUOTE; NONE: no such ones, alike.");
        LaughDrum x = told(SIX);
        for (int box = 0; box < 6; box++) {
            due("alike, " + box, x.quote(box, box), NONE);
        }
        within("one", box -> x.quote(box, 1), 0, 5, NONE);
        within("other", box -> x.quote(1, box), 0, 5, NONE);
        due("alike, no such one", x.quote(6, 6), NONE);
        due("two", x.quote(5, 0), 8);
    }

    private static void forgedOfTerms() {
        says("Terms for promise 25", "FORGED: BOXES (bits) that are ALIKE by TURN 0 at 6 places or more with one that isn't KIN.");
        String a = "box a 1 1 1 2 3 4 5 6 7 8;";
        due("8", told(a + "box b 1 1 1 2 3 4 5 6 7 8;").forged(), 3);
        due("6", told(a + "box b 1 1 9 9 3 4 5 6 7 8;").forged(), 3);
        due("5", told(a + "box b 1 1 9 9 9 4 5 6 7 8;").forged(), 0);
        due("6 of kin", told(a + "box b 1 1 9 9 3 4 5 6 7 8;kin b a;").forged(), 0);
        due("by another turn", told(TURNED).forged(), 0);
        due("with itself", told(a).forged(), 0);
        due("silence", told("box a 1 1 0 0 0 0 0 0 0 0;box b 1 1 0 0 0 0 0 0 0 0;").forged(), 0);
        LaughDrum x = told(a + "box b 1 1 1 2 3 4 5 6 1 1;box c 1 1 1 2 3 4 5 6 7 8;box d 1 1 1 2 3 4 5 9 9 9;kin a c;");
        due("with one of several", x.forged(), 7);
        x.tooth(1, 6, true);
        due("five then", x.forged(), 0);
        due("six boxes", told(SIX + "kin a b;kin b c;").forged(), 63);
    }

    private static void forged() {
        says("Promise 25", "FORGED (bits).");
        due("none told", new LaughDrum().forged(), 0);
        due("the last two", told(drums("33333333", "44444444", "55555555", "22222222", "11111111", "11111111")).forged(), 48);
    }
}
