import java.util.NoSuchElementException;

/** Music boxes that hold the dead's laughter; DOC.md numbers what each call promises. */
public final class LaughDrum {
    public static final int NONE = -1;

    private static final int NOT_SO = -2;
    private static final int TAPE_MOST = 700;
    private static final int BOXES_MOST = 6;
    private static final int PLACES = 8;
    private static final int TEETH_MOST = 12;
    private static final int KIN_MOST = 9;
    private static final int GUESTS_MOST = 5;
    private static final int KNOTS_MOST = 64;
    private static final int OPEN_MOST = 8;
    private static final int FOUND_MOST = 24;
    private static final int UNDO_MOST = 20;
    private static final int SPRING_MOST = 99;
    private static final int FALSE_MOST = 99;
    private static final int TOOTH_MOST = 9;
    private static final int HEARD_MOST = 9;
    private static final int YEARS_MOST = 99;
    private static final int YEAR_LAST = 9900;
    private static final int FORGED_LEAST = 6;
    private static final int BID_MOST = 4;
    private static final int WOUND_MOST = 3;
    private static final int TURNS_TRIED = 10;
    private static final int AHEAD_MOST = 999;

    private static final long VALUE_MOST = 1000000000000L;
    private static final long ERROR = Long.MIN_VALUE;

    private static final int FAULT_TOKEN = 1;
    private static final int FAULT_MUCH = 2;
    private static final int FAULT_TWICE = 3;
    private static final int FAULT_UNTOLD = 4;
    private static final int FAULT_ITSELF = 5;

    // The language's words as named() packs letters, so that one number tells a word.
    private static final int SAYS_BOX = 83623936;
    private static final int SAYS_TOOTH = 687329536;
    private static final int SAYS_KIN = 378994688;
    private static final int SAYS_GUEST = 257085056;
    private static final int SAYS_DAMP = 135708672;
    private static final int SAYS_SEED = 642945024;
    private static final int SAYS_LAW = 404455424;
    private static final int SAYS_WEAR = 777046016;
    private static final int SAYS_SOUR = 653969408;
    private static final int SAYS_CHARM = 109103520;
    private static final int SAYS_OR = 522190848;
    private static final int SAYS_AND = 48365568;
    private static final int SAYS_NOT = 486146048;
    private static final int SAYS_SPRING = 654910919;
    private static final int SAYS_SLOW = 650632192;
    private static final int SAYS_PINS = 546786304;
    private static final int SAYS_FALSE = 202788000;
    private static final int SAYS_TEETH = 676516096;
    private static final int SAYS_PLAYS = 549512800;
    private static final int SAYS_YEAR = 844154880;

    private static final int LAWS = 3;
    private static final int LAW_WEAR = 0;
    private static final int LAW_SOUR = 1;
    private static final int LAW_CHARM = 2;

    private static final int TOKEN_END = 0;
    private static final int TOKEN_WORD = 1;
    private static final int TOKEN_NUMBER = 2;
    private static final int TOKEN_SIGN = 3;
    private static final int TOKEN_WRONG = 4;

    // Knots up to KNOT_YEAR are operands; a sign's token has its knot's number.
    private static final int KNOT_NUMBER = 0;
    private static final int KNOT_SPRING = 1;
    private static final int KNOT_SLOW = 2;
    private static final int KNOT_PINS = 3;
    private static final int KNOT_FALSE = 4;
    private static final int KNOT_TEETH = 5;
    private static final int KNOT_PLAYS = 6;
    private static final int KNOT_YEAR = 7;
    private static final int KNOT_OR = 8;
    private static final int KNOT_AND = 9;
    private static final int KNOT_NOT = 10;
    private static final int KNOT_LESS = 11;
    private static final int KNOT_LESS_SAME = 12;
    private static final int KNOT_SAME = 13;
    private static final int KNOT_UNLIKE = 14;
    private static final int KNOT_MORE_SAME = 15;
    private static final int KNOT_MORE = 16;
    private static final int KNOT_PLUS = 17;
    private static final int KNOT_MINUS = 18;
    private static final int KNOT_TIMES = 19;
    private static final int KNOT_BY = 20;
    private static final int SIGN_OPEN = 21;
    private static final int SIGN_CLOSE = 22;
    private static final int SIGN_ENDS = 23;

    private final Scanner tape = new Scanner();
    private final Reader reader = new Reader(tape);
    private final Shelf now = new Shelf();
    private final Shelf image = new Shelf();
    private final Changes changes = new Changes();
    private final Findings findings = new Findings();
    private final Ear ear = new Ear();
    private final Orders orders = new Orders();
    private final Box trial = new Box();
    private final int[] gains = new int[WOUND_MOST * TURNS_TRIED];
    private final int[] wound = new int[WOUND_MOST];
    private Tale told = new Tale();
    private Tale draft = new Tale();
    private boolean hasImage = false;

    public LaughDrum() {
    }

    public int feed(int a, int b, int c, int d, int e) {
        if (tape.held + 20 > TAPE_MOST) {
            return NONE;
        }
        tape.put(a);
        tape.put(b);
        tape.put(c);
        tape.put(d);
        tape.put(e);
        return tape.held;
    }

    public int text(int n) {
        if (n < 0 || n > tape.held) {
            return NOT_SO;
        }
        reader.readAll(draft, n);
        tape.held = 0;
        if (reader.fault != 0) {
            return NONE;
        }
        Tale last = told;
        told = draft;
        draft = last;
        now.setOut(told);
        findings.clear();
        changes.clear();
        hasImage = false;
        return told.lines;
    }

    public int fault(int what) {
        if (what == 0) {
            return reader.fault;
        }
        return what == 1 ? reader.faultAt : NONE;
    }

    public int named(int what, int letters) {
        if (what == 0) {
            return told.boxNamed(letters);
        }
        return what == 1 ? told.guestNamed(letters) : NONE;
    }

    public int box(int box, int what) throws IndexOutOfBoundsException, NoSuchElementException {
        if (!isBox(box)) {
            throw new IndexOutOfBoundsException("no such box");
        }
        Box it = now.boxes[box];
        switch (what) {
            case 0:
                return it.spring;
            case 1:
                return it.slow;
            case 2:
                return it.falseness;
            case 3:
                return it.played;
            case 4:
                return it.laughter;
            case 5:
                return it.isStolen ? 1 : 0;
            case 6:
                return it.missing;
            default:
                throw new NoSuchElementException("no such what");
        }
    }

    public int pin(int box, int k) {
        return isBox(box) && isWithin(k, 0, PLACES - 1) ? now.boxes[box].drum[k] : NONE;
    }

    public int heard(int box, int k) {
        return isBox(box) && isWithin(k, 0, PLACES - 1) ? now.boxes[box].heardNow(k) : NONE;
    }

    public int guest(int guest, int what) {
        if (!isWithin(guest, 0, told.guests - 1)) {
            return NONE;
        }
        if (what == 0) {
            return told.waits[guest];
        }
        return what == 1 ? told.degrees[guest] : NONE;
    }

    public int kin(int one, int other) {
        if (!isBox(one) || !isBox(other)) {
            return NONE;
        }
        return now.boxes[one].isKinOf(other) ? 1 : 0;
    }

    public long law(int what, int box) {
        if (!isBox(box) || !isWithin(what, 0, LAWS - 1)) {
            return ERROR;
        }
        return told.laws.worth(what, now.boxes[box], now.year);
    }

    public int wind(int box, int turns) {
        if (!isBox(box) || !isWithin(turns, 1, SPRING_MOST)) {
            return NONE;
        }
        Box it = now.boxes[box];
        if (it.isStolen || it.spring >= SPRING_MOST) {
            return NOT_SO;
        }
        changes.note(box, it);
        it.spring = Math.min(SPRING_MOST, it.spring + turns);
        return it.spring;
    }

    public boolean steal(int box, boolean is) {
        if (!isBox(box) || now.boxes[box].isStolen == is) {
            return false;
        }
        changes.note(box, now.boxes[box]);
        now.boxes[box].isStolen = is;
        return true;
    }

    public boolean tooth(int box, int tooth, boolean isMissing) {
        if (!isBox(box) || !isWithin(tooth, 1, TOOTH_MOST)) {
            return false;
        }
        Box it = now.boxes[box];
        if (it.misses(tooth) == isMissing) {
            return false;
        }
        changes.note(box, it);
        it.missing ^= 1 << tooth;
        return true;
    }

    public int years(int n) {
        if (!isWithin(n, 0, YEARS_MOST) || now.year + n > YEAR_LAST) {
            return NONE;
        }
        for (int i = 0; i < n; i++) {
            now.goOneYear(told);
        }
        if (n > 0) {
            changes.clear();
        }
        return now.year;
    }

    public int ahead(int box, int n, int what) {
        if (!isBox(box) || !isWithin(n, 0, YEARS_MOST) || !isWithin(what, 0, 3)) {
            return NONE;
        }
        Box it = now.boxes[box];
        trial.copyOf(it);
        goOnTrial(n, what == 2);
        switch (what) {
            case 0:
                return trial.spring;
            case 1:
                return trial.falseness;
            case 2:
                return trial.laughter - it.laughter;
            default:
                return trial.played - it.played;
        }
    }

    public int alike(int one, int other, int turn) {
        if (!isBox(one) || !isBox(other) || !isWithin(turn, 0, PLACES - 1)) {
            return NONE;
        }
        ear.listen(now);
        return ear.alikeBy(one, other, turn);
    }

    public int like(int one, int other, int what) {
        if (!isBox(one) || !isBox(other) || !isWithin(what, 0, 1)) {
            return NONE;
        }
        ear.listen(now);
        int best = 0;
        for (int turn = 1; turn < PLACES; turn++) {
            if (ear.alikeBy(one, other, turn) > ear.alikeBy(one, other, best)) {
                best = turn;
            }
        }
        return what == 0 ? best : ear.alikeBy(one, other, best);
    }

    public int whose() {
        return boxesThatFit();
    }

    public int fill(int box, int tooth) {
        if (!isBox(box) || !isWithin(tooth, 1, TOOTH_MOST)) {
            return NONE;
        }
        if (!now.boxes[box].misses(tooth)) {
            return NOT_SO;
        }
        ear.listen(now);
        int best = 0;
        int most = NONE;
        for (int number = 1; number <= HEARD_MOST; number++) {
            int sum = kinThatHear(box, tooth, number);
            if (sum > most) {
                most = sum;
                best = number;
            }
        }
        return best;
    }

    public int join(int boxes, int what) {
        if (!areBoxes(boxes) || !isWithin(what, 0, BOXES_MOST)) {
            return NONE;
        }
        ear.listen(now);
        int length = orders.shortest(ear, boxes);
        if (what == BOXES_MOST) {
            return length;
        }
        return what < orders.inRow ? orders.row[what] : NOT_SO;
    }

    public int duet(int one, int other) {
        if (!isBox(one) || !isBox(other) || one == other) {
            return NONE;
        }
        ear.listen(now);
        return ear.firstMinute(one, now.boxes[one].slow, other, now.boxes[other].slow);
    }

    public int tree() {
        ear.listen(now);
        int led = 1;
        int sum = 0;
        for (int i = 1; i < now.count; i++) {
            int nearest = nearestTo(led);
            if (nearest != NONE) {
                sum += fewestUnlike(led, nearest);
                led |= 1 << nearest;
            }
        }
        return sum;
    }

    public int far(int one, int other) {
        return isBox(one) && isBox(other) ? stepsOfKin(one, other) : NONE;
    }

    public int forged() {
        ear.listen(now);
        int bits = 0;
        for (int one = 0; one < now.count; one++) {
            for (int other = 0; other < now.count; other++) {
                if (one != other && !now.boxes[one].isKinOf(other)
                        && ear.alikeBy(one, other, 0) >= FORGED_LEAST) {
                    bits |= 1 << one;
                }
            }
        }
        return bits;
    }

    public int lasts(int box) {
        if (!isBox(box)) {
            return NONE;
        }
        trial.copyOf(now.boxes[box]);
        int n = 0;
        while (n < AHEAD_MOST && trial.isLetGo()) {
            trial.goOneYear(told.laws, now.year + n, isDampAsItGoes(), false);
            n++;
        }
        return trial.spring == 0 ? n : NOT_SO;
    }

    public int winding(int n, int turns, int what) {
        if (!isWithin(n, 1, 20) || !isWithin(turns, 0, 9) || !isWithin(what, 0, WOUND_MOST)) {
            return NONE;
        }
        if (what < WOUND_MOST && what >= now.count) {
            return NOT_SO;
        }
        weighTurns(n, turns);
        int most = windBest(turns);
        if (what < WOUND_MOST) {
            return wound[what];
        }
        for (int box = WOUND_MOST; box < now.count; box++) {
            trial.copyOf(now.boxes[box]);
            most += laughterOnTrial(n, isDampAsItGoes());
        }
        return most;
    }

    public int laughBack(int box) {
        if (!isBox(box)) {
            return NONE;
        }
        int steps = stepsOfKin(0, box);
        return steps < 0 ? 0 : guestsWho(PLACES * now.boxes[box].slow, steps);
    }

    public int rests(int box) {
        if (!isBox(box)) {
            return NONE;
        }
        int laughter = laughterOfThisYear(box);
        int n = 0;
        for (int one = 0; one <= BID_MOST; one++) {
            for (int other = 0; other <= BID_MOST; other++) {
                if (isRest(laughter, one, other)) {
                    n++;
                }
            }
        }
        return n;
    }

    public int rest(int box, int k) {
        if (!isBox(box) || k < 0) {
            return NONE;
        }
        int laughter = laughterOfThisYear(box);
        int n = 0;
        for (int one = 0; one <= BID_MOST; one++) {
            for (int other = 0; other <= BID_MOST; other++) {
                if (isRest(laughter, one, other)) {
                    if (n == k) {
                        return 10 * one + other;
                    }
                    n++;
                }
            }
        }
        return NOT_SO;
    }

    public int ask(int what) {
        if (!isWithin(what, 0, 1)) {
            return NONE;
        }
        int boxes = boxesThatFit();
        ear.listen(now);
        int best = 0;
        for (int place = 1; place < PLACES; place++) {
            if (ear.mostSame(boxes, place) < ear.mostSame(boxes, best)) {
                best = place;
            }
        }
        return what == 0 ? best : ear.mostSame(boxes, best);
    }

    public int stay(int boxes) {
        if (!areBoxes(boxes)) {
            return NONE;
        }
        int slow = 0;
        for (int box = 0; box < now.count; box++) {
            if ((boxes >> box & 1) == 1) {
                slow += now.boxes[box].slow;
            }
        }
        return guestsWho(PLACES * slow, 0);
    }

    public int line(int what) {
        if (!isWithin(what, 0, BOXES_MOST)) {
            return NONE;
        }
        orders.longest(now);
        if (what == 0) {
            return orders.inRow;
        }
        return what <= orders.inRow ? orders.row[what - 1] : NOT_SO;
    }

    public int quote(int one, int other) {
        if (!isBox(one) || !isBox(other) || one == other) {
            return NONE;
        }
        ear.listen(now);
        return ear.longestRun(one, other);
    }

    public int merriest() {
        int best = NOT_SO;
        int most = 0;
        for (int box = 0; box < now.count; box++) {
            if (now.boxes[box].laughter > most) {
                most = now.boxes[box].laughter;
                best = box;
            }
        }
        return best;
    }

    public int silent() {
        int bits = 0;
        for (int box = 0; box < now.count; box++) {
            if (!now.boxes[box].isLetGo()) {
                bits |= 1 << box;
            }
        }
        return bits;
    }

    public int runDown(int n) {
        if (!isWithin(n, 0, YEARS_MOST)) {
            return NONE;
        }
        int bits = 0;
        for (int box = 0; box < now.count; box++) {
            trial.copyOf(now.boxes[box]);
            goOnTrial(n, false);
            if (trial.spring == 0 && now.boxes[box].spring > 0) {
                bits |= 1 << box;
            }
        }
        return bits;
    }

    public int find(int place, int heard, boolean is) {
        if (!isWithin(place, 0, PLACES - 1) || !isWithin(heard, 0, HEARD_MOST)) {
            return NONE;
        }
        return findings.add(place, heard, is);
    }

    public int strike(int found) {
        return isWithin(found, 0, findings.held - 1) ? findings.addStrike(found) : NONE;
    }

    public boolean known(int n) {
        if (!isWithin(n, NONE, findings.held)) {
            return false;
        }
        findings.first = n;
        return true;
    }

    public int sours(int box) {
        if (!isBox(box)) {
            return NONE;
        }
        findings.sift();
        int bits = 0;
        for (int k = 0; k < 10; k++) {
            if (findings.fit(now.boxes[box], 5 * k)) {
                bits |= 1 << k;
            }
        }
        return bits;
    }

    public int chance(int seed, int n, int box, int isFalse) {
        if (!isBox(box) || seed < 0 || !isWithin(n, 1, YEARS_MOST) || !isWithin(isFalse, 0, FALSE_MOST)) {
            return NONE;
        }
        int number = seed;
        int times = 0;
        for (int i = 0; i < 10; i++) {
            trial.copyOf(now.boxes[box]);
            number = drawOnTrial(number, n);
            if (trial.falseness >= isFalse) {
                times++;
            }
        }
        return times;
    }

    public int tried(int what, int i, int n) {
        if (!isWithin(what, 0, 4) || !isWithin(n, 0, YEARS_MOST)) {
            return NONE;
        }
        if (what == 2 ? !isBox(i) : i != 0) {
            return NONE;
        }
        int sum = 0;
        for (int box = 0; box < now.count; box++) {
            if (what != 2 || box != i) {
                trial.copyOf(now.boxes[box]);
                changeTrial(what);
                sum += laughterOnTrial(n, what != 0 && isDampAsItGoes());
            }
        }
        return sum;
    }

    public int undo() {
        if (changes.held == 0) {
            return NONE;
        }
        changes.takeLatest(now);
        return changes.held;
    }

    public int keep() {
        image.copyOf(now);
        hasImage = true;
        return now.year;
    }

    public int back() {
        if (!hasImage) {
            return NONE;
        }
        now.copyOf(image);
        changes.clear();
        return now.year;
    }

    public int count(int what) {
        switch (what) {
            case 0:
                return now.count;
            case 1:
                return told.kins;
            case 2:
                return told.guests;
            case 3:
                return told.laws.knots;
            case 4:
                return now.year;
            case 5:
            case 6:
            case 7:
            case 8:
                return sumOfBoxes(what);
            case 9:
                return now.dampYears;
            case 10:
                return findings.held;
            case 11:
                return findings.firstKnown();
            case 12:
                return changes.held;
            default:
                return NONE;
        }
    }

    private int sumOfBoxes(int what) {
        int sum = 0;
        for (int i = 0; i < now.count; i++) {
            Box it = now.boxes[i];
            if (what == 5) {
                sum += it.played;
            } else if (what == 6) {
                sum += it.laughter;
            } else if (what == 7) {
                sum += it.isStolen ? 1 : 0;
            } else {
                sum += Integer.bitCount(it.missing);
            }
        }
        return sum;
    }

    private static boolean isWithin(int number, int least, int most) {
        return number >= least && number <= most;
    }

    private boolean isBox(int box) {
        return box >= 0 && box < now.count;
    }

    private boolean areBoxes(int bits) {
        return bits >= 0 && bits < 1 << now.count;
    }

    private boolean isDampAsItGoes() {
        return told.damp >= 50;
    }

    private void goOnTrial(int n, boolean laughs) {
        for (int i = 0; i < n; i++) {
            trial.goOneYear(told.laws, now.year + i, isDampAsItGoes(), laughs);
        }
    }

    // A box that isn't let go in a year is never let go in a later one, so no more laughter comes of it.
    private int laughterOnTrial(int n, boolean isDamp) {
        int before = trial.laughter;
        for (int i = 0; i < n && trial.isLetGo(); i++) {
            trial.goOneYear(told.laws, now.year + i, isDamp, true);
        }
        return trial.laughter - before;
    }

    private int drawOnTrial(int seed, int n) {
        int number = seed;
        for (int i = 0; i < n; i++) {
            number = told.isDrawn() ? Shelf.nextNumber(number) : number;
            trial.goOneYear(told.laws, now.year + i, told.isDampBy(number), false);
        }
        return number;
    }

    private void changeTrial(int what) {
        if (what == 1) {
            trial.isStolen = false;
        } else if (what == 3) {
            trial.missing = 0;
        } else if (what == 4) {
            trial.spring = SPRING_MOST;
        }
    }

    private int boxesThatFit() {
        findings.sift();
        int bits = 0;
        for (int box = 0; box < now.count; box++) {
            if (findings.fit(now.boxes[box], now.boxes[box].falseness)) {
                bits |= 1 << box;
            }
        }
        return bits;
    }

    // Places without that pin add the same for every number, so they are left out.
    private int kinThatHear(int box, int tooth, int number) {
        int sum = 0;
        for (int other = 0; other < now.count; other++) {
            for (int k = 0; k < PLACES && now.boxes[box].isKinOf(other); k++) {
                if (now.boxes[box].drum[k] == tooth && ear.at(other, k) == number) {
                    sum++;
                }
            }
        }
        return sum;
    }

    private int nearestTo(int led) {
        int nearest = NONE;
        for (int box = 0; box < now.count; box++) {
            if ((led >> box & 1) == 0
                    && (nearest == NONE || fewestUnlike(led, box) < fewestUnlike(led, nearest))) {
                nearest = box;
            }
        }
        return nearest;
    }

    private int fewestUnlike(int led, int box) {
        int fewest = PLACES;
        for (int other = 0; other < now.count; other++) {
            if ((led >> other & 1) == 1) {
                fewest = Math.min(fewest, PLACES - ear.alikeBy(other, box, 0));
            }
        }
        return fewest;
    }

    private int stepsOfKin(int one, int other) {
        int reached = 1 << one;
        for (int steps = 0; steps < BOXES_MOST; steps++) {
            if ((reached >> other & 1) == 1) {
                return steps;
            }
            int more = reached;
            for (int box = 0; box < now.count; box++) {
                if ((reached >> box & 1) == 1) {
                    more |= now.boxes[box].kinBits;
                }
            }
            reached = more;
        }
        return NOT_SO;
    }

    private int guestsWho(int wait, int degree) {
        int bits = 0;
        for (int guest = 0; guest < told.guests; guest++) {
            if (told.waits[guest] >= wait && told.degrees[guest] >= degree) {
                bits |= 1 << guest;
            }
        }
        return bits;
    }

    // Boxes don't touch one another as it goes, so what each gains by its own turns is enough.
    private void weighTurns(int n, int turns) {
        for (int i = 0; i < WOUND_MOST; i++) {
            for (int turn = 0; turn < TURNS_TRIED; turn++) {
                int gain = 0;
                if (turn <= turns && i < now.count) {
                    trial.copyOf(now.boxes[i]);
                    trial.spring = Math.min(SPRING_MOST, trial.spring + turn);
                    gain = laughterOnTrial(n, isDampAsItGoes());
                }
                gains[i * TURNS_TRIED + turn] = gain;
            }
        }
    }

    private int windBest(int turns) {
        int most = NONE;
        for (int one = 0; one <= turns; one++) {
            for (int two = 0; one + two <= turns; two++) {
                for (int three = 0; one + two + three <= turns; three++) {
                    int gain = gains[one] + gains[TURNS_TRIED + two] + gains[2 * TURNS_TRIED + three];
                    if (gain > most) {
                        most = gain;
                        wound[0] = one;
                        wound[1] = two;
                        wound[2] = three;
                    }
                }
            }
        }
        return most;
    }

    private int laughterOfThisYear(int box) {
        trial.copyOf(now.boxes[box]);
        return laughterOnTrial(1, isDampAsItGoes());
    }

    private static int keyIsWorth(int laughter, int bid, int other) {
        if (bid < other) {
            return 0;
        }
        return (bid > other ? laughter : laughter / 2) - bid;
    }

    private static boolean isRest(int laughter, int one, int other) {
        for (int bid = 0; bid <= BID_MOST; bid++) {
            if (keyIsWorth(laughter, bid, other) > keyIsWorth(laughter, one, other)
                    || keyIsWorth(laughter, bid, one) > keyIsWorth(laughter, other, one)) {
                return false;
            }
        }
        return true;
    }

    /** A music box: what was told of it, and how it stands. */
    private static final class Box {
        final int[] drum = new int[PLACES];
        int name;
        int slow;
        int pinned;
        int kinBits;
        int spring;
        int falseness;
        int played;
        int laughter;
        int missing;
        boolean isStolen;

        void copyOf(Box from) {
            System.arraycopy(from.drum, 0, drum, 0, PLACES);
            name = from.name;
            slow = from.slow;
            pinned = from.pinned;
            kinBits = from.kinBits;
            spring = from.spring;
            falseness = from.falseness;
            played = from.played;
            laughter = from.laughter;
            missing = from.missing;
            isStolen = from.isStolen;
        }

        boolean misses(int tooth) {
            return (missing >> tooth & 1) == 1;
        }

        boolean isKinOf(int box) {
            return (kinBits >> box & 1) == 1;
        }

        boolean isLetGo() {
            return !isStolen && spring > 0;
        }

        int heardNow(int place) {
            return heardWith(place, falseness);
        }

        int heardWith(int place, int isFalse) {
            int pin = drum[place];
            return pin == 0 || misses(pin) ? 0 : Math.min(HEARD_MOST, pin + isFalse / 5);
        }

        int placesHeard() {
            int n = 0;
            for (int k = 0; k < PLACES; k++) {
                if (heardWith(k, falseness) > 0) {
                    n++;
                }
            }
            return n;
        }

        void goOneYear(Laws laws, int year, boolean isDamp, boolean laughs) {
            if (isLetGo()) {
                letGo(laws, year, laughs);
            }
            if (isDamp) {
                growFalse(laws, year);
            }
        }

        // Where nobody asks for laughter its law is left out: nothing else hangs on it.
        void letGo(Laws laws, int year, boolean laughs) {
            played++;
            if (laughs) {
                long charm = laws.worth(LAW_CHARM, this, year);
                laughter += charm == ERROR ? placesHeard() : hold(charm, 99);
            }
            long wear = laws.worth(LAW_WEAR, this, year);
            spring = Math.max(0, spring - (wear == ERROR ? 1 : hold(wear, 9)));
        }

        void growFalse(Laws laws, int year) {
            long sour = laws.worth(LAW_SOUR, this, year);
            falseness = Math.min(FALSE_MOST, falseness + (sour == ERROR ? 1 : hold(sour, 9)));
        }

        static int hold(long value, int most) {
            return (int) Math.max(0L, Math.min((long) most, value));
        }
    }

    /** The laws of a text: their knots one behind another, each sign behind its operands. */
    private static final class Laws {
        final int[] knot = new int[KNOTS_MOST];
        final int[] number = new int[KNOTS_MOST];
        final int[] from = new int[LAWS];
        final int[] until = new int[LAWS];
        final long[] values = new long[KNOTS_MOST];
        int knots;

        void clear() {
            knots = 0;
            for (int i = 0; i < LAWS; i++) {
                from[i] = 0;
                until[i] = 0;
            }
        }

        boolean isTold(int law) {
            return until[law] > from[law];
        }

        void put(int kind, int value) {
            if (knots < KNOTS_MOST) {
                knot[knots] = kind;
                number[knots] = value;
                knots++;
            }
        }

        /** The value of a law's E; ERROR without such a law, too. */
        long worth(int law, Box of, int year) {
            int n = 0;
            for (int i = from[law]; i < until[law]; i++) {
                int kind = knot[i];
                if (kind <= KNOT_YEAR) {
                    values[n] = kind == KNOT_NUMBER ? number[i] : nameOf(kind, of, year);
                    n++;
                } else if (kind == KNOT_NOT && n > 0) {
                    values[n - 1] = truth(values[n - 1] == 0);
                } else if (n > 1) {
                    n--;
                    long value = sign(kind, values[n - 1], values[n]);
                    if (value > VALUE_MOST || value < -VALUE_MOST) {
                        return ERROR;
                    }
                    values[n - 1] = value;
                }
            }
            return n == 1 ? values[0] : ERROR;
        }

        static long nameOf(int kind, Box of, int year) {
            switch (kind) {
                case KNOT_SPRING:
                    return of.spring;
                case KNOT_SLOW:
                    return of.slow;
                case KNOT_PINS:
                    return of.pinned;
                case KNOT_FALSE:
                    return of.falseness;
                case KNOT_TEETH:
                    return Integer.bitCount(of.missing);
                case KNOT_PLAYS:
                    return of.played;
                default:
                    return year;
            }
        }

        static long sign(int kind, long a, long b) {
            switch (kind) {
                case KNOT_OR:
                    return truth(a != 0 || b != 0);
                case KNOT_AND:
                    return truth(a != 0 && b != 0);
                case KNOT_LESS:
                    return truth(a < b);
                case KNOT_LESS_SAME:
                    return truth(a <= b);
                case KNOT_SAME:
                    return truth(a == b);
                case KNOT_UNLIKE:
                    return truth(a != b);
                case KNOT_MORE_SAME:
                    return truth(a >= b);
                case KNOT_MORE:
                    return truth(a > b);
                case KNOT_PLUS:
                    return a + b;
                case KNOT_MINUS:
                    return a - b;
                case KNOT_TIMES:
                    return product(a, b);
                default:
                    return b == 0 ? ERROR : a / b;
            }
        }

        // Two values up to 10 to the 12 may leave a long when multiplied, so the bound is asked first.
        static long product(long a, long b) {
            if (a == 0 || b == 0) {
                return 0;
            }
            return (b < 0 ? -b : b) > VALUE_MOST / (a < 0 ? -a : a) ? ERROR : a * b;
        }

        static long truth(boolean is) {
            return is ? 1 : 0;
        }
    }

    /** What a text tells. */
    private static final class Tale {
        final Box[] boxes = new Box[BOXES_MOST];
        final Laws laws = new Laws();
        final int[] guestNames = new int[GUESTS_MOST];
        final int[] waits = new int[GUESTS_MOST];
        final int[] degrees = new int[GUESTS_MOST];
        int count;
        int teeth;
        int kins;
        int guests;
        int damp;
        int seed;
        int lines;
        boolean isDampTold;
        boolean isSeedTold;

        Tale() {
            for (int i = 0; i < BOXES_MOST; i++) {
                boxes[i] = new Box();
            }
        }

        void clear() {
            laws.clear();
            count = 0;
            teeth = 0;
            kins = 0;
            guests = 0;
            damp = 0;
            seed = 0;
            lines = 0;
            isDampTold = false;
            isSeedTold = false;
        }

        int boxNamed(int letters) {
            for (int i = 0; i < count; i++) {
                if (boxes[i].name == letters) {
                    return i;
                }
            }
            return NONE;
        }

        int guestNamed(int letters) {
            for (int i = 0; i < guests; i++) {
                if (guestNames[i] == letters) {
                    return i;
                }
            }
            return NONE;
        }

        boolean isDrawn() {
            return damp > 0 && damp < 100;
        }

        boolean isDampBy(int number) {
            return isDrawn() ? number / 65536 % 100 < damp : damp == 100;
        }
    }

    /** The boxes as they stand in a year. */
    private static final class Shelf {
        final Box[] boxes = new Box[BOXES_MOST];
        int count;
        int year;
        int number;
        int dampYears;

        Shelf() {
            for (int i = 0; i < BOXES_MOST; i++) {
                boxes[i] = new Box();
            }
        }

        void setOut(Tale tale) {
            count = tale.count;
            for (int i = 0; i < count; i++) {
                boxes[i].copyOf(tale.boxes[i]);
            }
            year = 0;
            number = tale.seed;
            dampYears = 0;
        }

        void copyOf(Shelf from) {
            count = from.count;
            for (int i = 0; i < count; i++) {
                boxes[i].copyOf(from.boxes[i]);
            }
            year = from.year;
            number = from.number;
            dampYears = from.dampYears;
        }

        void goOneYear(Tale tale) {
            if (tale.isDrawn()) {
                number = nextNumber(number);
            }
            boolean isDamp = tale.isDampBy(number);
            for (int i = 0; i < count; i++) {
                boxes[i].goOneYear(tale.laws, year, isDamp, true);
            }
            if (isDamp) {
                dampYears++;
            }
            year++;
        }

        static int nextNumber(int last) {
            return (int) (last * 1103515245L + 12345L & 0x7fffffffL);
        }
    }

    /** What can be undone: how a box stood ahead of each change by call. */
    private static final class Changes {
        final int[] boxes = new int[UNDO_MOST];
        final int[] springs = new int[UNDO_MOST];
        final int[] missing = new int[UNDO_MOST];
        final boolean[] isStolen = new boolean[UNDO_MOST];
        int held;

        void clear() {
            held = 0;
        }

        void note(int box, Box stood) {
            if (held == UNDO_MOST) {
                dropEarliest();
            }
            boxes[held] = box;
            springs[held] = stood.spring;
            missing[held] = stood.missing;
            isStolen[held] = stood.isStolen;
            held++;
        }

        void dropEarliest() {
            held--;
            for (int i = 0; i < held; i++) {
                boxes[i] = boxes[i + 1];
                springs[i] = springs[i + 1];
                missing[i] = missing[i + 1];
                isStolen[i] = isStolen[i + 1];
            }
        }

        void takeLatest(Shelf shelf) {
            if (held > 0) {
                held--;
                Box it = shelf.boxes[boxes[held]];
                it.spring = springs[held];
                it.missing = missing[held];
                it.isStolen = isStolen[held];
            }
        }
    }

    /** What was found, strikes among it. */
    private static final class Findings {
        final int[] aims = new int[FOUND_MOST];
        final int[] sounds = new int[FOUND_MOST];
        final boolean[] isSo = new boolean[FOUND_MOST];
        final boolean[] isStrike = new boolean[FOUND_MOST];
        final boolean[] isStruck = new boolean[FOUND_MOST];
        int held;
        int first = NONE;

        void clear() {
            held = 0;
            first = NONE;
        }

        int firstKnown() {
            return first == NONE ? held : first;
        }

        int add(int place, int sound, boolean is) {
            if (held >= FOUND_MOST) {
                return NONE;
            }
            aims[held] = place;
            sounds[held] = sound;
            isSo[held] = is;
            isStrike[held] = false;
            held++;
            return held - 1;
        }

        int addStrike(int found) {
            int number = add(found, 0, true);
            if (number != NONE) {
                isStrike[number] = true;
            }
            return number;
        }

        // A strike aims at an earlier one only, so from the last one on each is settled when it is asked.
        void sift() {
            for (int i = 0; i < held; i++) {
                isStruck[i] = false;
            }
            for (int i = firstKnown() - 1; i >= 0; i--) {
                if (isStrike[i] && !isStruck[i]) {
                    isStruck[aims[i]] = true;
                }
            }
        }

        boolean fit(Box box, int isFalse) {
            for (int i = 0; i < firstKnown(); i++) {
                if (!isStrike[i] && !isStruck[i]
                        && (box.heardWith(aims[i], isFalse) == sounds[i]) != isSo[i]) {
                    return false;
                }
            }
            return true;
        }
    }

    /** What is heard of all boxes now, laid side by side. */
    private static final class Ear {
        final int[] sounds = new int[BOXES_MOST * PLACES];

        void listen(Shelf shelf) {
            for (int box = 0; box < shelf.count; box++) {
                for (int k = 0; k < PLACES; k++) {
                    sounds[box * PLACES + k] = shelf.boxes[box].heardNow(k);
                }
            }
        }

        int at(int box, int place) {
            return sounds[box * PLACES + place];
        }

        boolean sameAbove(int one, int place, int other, int there) {
            return at(one, place) > 0 && at(one, place) == at(other, there);
        }

        int alikeBy(int one, int other, int turn) {
            int n = 0;
            for (int k = 0; k < PLACES; k++) {
                if (sameAbove(one, k, other, (k + turn) % PLACES)) {
                    n++;
                }
            }
            return n;
        }

        int overlap(int ahead, int behind) {
            for (int n = PLACES - 1; n > 0; n--) {
                int same = 0;
                while (same < n && at(ahead, PLACES - n + same) == at(behind, same)) {
                    same++;
                }
                if (same == n) {
                    return n;
                }
            }
            return 0;
        }

        int firstMinute(int one, int slow, int other, int otherSlow) {
            if (slow < 1 || otherSlow < 1) {
                return NOT_SO;
            }
            for (int minute = 0; minute <= AHEAD_MOST; minute++) {
                if (sameAbove(one, minute / slow % PLACES, other, minute / otherSlow % PLACES)) {
                    return minute;
                }
            }
            return NOT_SO;
        }

        int longestRun(int one, int other) {
            int most = 0;
            for (int from = 0; from < PLACES; from++) {
                for (int there = 0; there < PLACES; there++) {
                    int n = 0;
                    while (from + n < PLACES && there + n < PLACES
                            && sameAbove(one, from + n, other, there + n)) {
                        n++;
                    }
                    most = Math.max(most, n);
                }
            }
            return most;
        }

        int mostSame(int boxes, int place) {
            int most = 0;
            for (int one = 0; one < BOXES_MOST; one++) {
                int n = 0;
                for (int other = 0; other < BOXES_MOST; other++) {
                    if ((boxes >> other & 1) == 1 && at(one, place) == at(other, place)) {
                        n++;
                    }
                }
                if ((boxes >> one & 1) == 1) {
                    most = Math.max(most, n);
                }
            }
            return most;
        }
    }

    /** Rows of unlike boxes, weighed by which are left and which one stands first. */
    private static final class Orders {
        final int[] best = new int[(1 << BOXES_MOST) * BOXES_MOST];
        final int[] added = new int[BOXES_MOST * BOXES_MOST];
        final int[] row = new int[BOXES_MOST];
        int inRow;

        int shortest(Ear ear, int boxes) {
            inRow = 0;
            for (int i = 0; i < BOXES_MOST; i++) {
                for (int k = 0; k < BOXES_MOST; k++) {
                    added[i * BOXES_MOST + k] = PLACES - ear.overlap(i, k);
                }
            }
            for (int left = 1; left <= boxes; left++) {
                for (int first = 0; first < BOXES_MOST; first++) {
                    if ((left & ~boxes) == 0 && (left >> first & 1) == 1) {
                        best[left * BOXES_MOST + first] = shortestFrom(first, left & ~(1 << first));
                    }
                }
            }
            int length = shortestOf(NONE, boxes);
            int last = NONE;
            int left = boxes;
            for (int i = 0; i < BOXES_MOST && left != 0; i++) {
                last = shortestNext(last, left);
                left &= ~(1 << last);
                row[i] = last;
                inRow++;
            }
            return length;
        }

        int shortestFrom(int first, int rest) {
            return rest == 0 ? PLACES : shortestOf(first, rest);
        }

        // Ahead of the first box of all stands none, so nothing is added for it.
        int lengthBy(int ahead, int next, int left) {
            return best[left * BOXES_MOST + next] + (ahead == NONE ? 0 : added[ahead * BOXES_MOST + next]);
        }

        int shortestNext(int ahead, int left) {
            int next = NONE;
            for (int i = BOXES_MOST - 1; i >= 0; i--) {
                if ((left >> i & 1) == 1
                        && (next == NONE || lengthBy(ahead, i, left) <= lengthBy(ahead, next, left))) {
                    next = i;
                }
            }
            return next;
        }

        int shortestOf(int ahead, int left) {
            int next = shortestNext(ahead, left);
            return next == NONE ? 0 : lengthBy(ahead, next, left);
        }

        void longest(Shelf shelf) {
            int all = (1 << shelf.count) - 1;
            for (int left = 1; left <= all; left++) {
                for (int first = 0; first < shelf.count; first++) {
                    if ((left >> first & 1) == 1) {
                        int rest = left & ~(1 << first);
                        int next = longestNext(rest & shelf.boxes[first].kinBits, rest);
                        best[left * BOXES_MOST + first] = next == NONE ? 1 : 1 + best[rest * BOXES_MOST + next];
                    }
                }
            }
            inRow = 0;
            int left = all;
            int next = longestNext(all, all);
            for (int i = 0; i < BOXES_MOST && next != NONE; i++) {
                row[i] = next;
                inRow++;
                left &= ~(1 << next);
                next = longestNext(left & shelf.boxes[next].kinBits, left);
            }
        }

        int longestNext(int choice, int left) {
            int next = NONE;
            for (int i = BOXES_MOST - 1; i >= 0; i--) {
                if ((choice >> i & 1) == 1
                        && (next == NONE || best[left * BOXES_MOST + i] >= best[left * BOXES_MOST + next])) {
                    next = i;
                }
            }
            return next;
        }
    }

    /** The tape, and the token that is looked at. */
    private static final class Scanner {
        final byte[] bytes = new byte[TAPE_MOST];
        int held;
        int end;
        int at;
        int start;
        int kind;
        int value;

        void put(int four) {
            for (int shift = 24; shift >= 0 && held < TAPE_MOST; shift -= 8) {
                bytes[held] = (byte) (four >> shift);
                held++;
            }
        }

        void begin(int length) {
            end = Math.min(length, held);
            at = 0;
            next();
        }

        boolean isWord(int word) {
            return kind == TOKEN_WORD && value == word;
        }

        boolean isSign(int sign) {
            return kind == TOKEN_SIGN && value == sign;
        }

        void next() {
            while (at < end && (bytes[at] == 10 || bytes[at] == 32)) {
                at++;
            }
            start = at;
            value = 0;
            if (at >= end) {
                kind = TOKEN_END;
            } else if (isLetter(bytes[at])) {
                takeWord();
            } else if (isDigit(bytes[at])) {
                takeDigits();
            } else {
                takeSign();
            }
        }

        void takeWord() {
            int letters = 0;
            while (at < end && isLetter(bytes[at])) {
                if (letters < 6) {
                    value |= bytes[at] - 96 << 25 - 5 * letters;
                }
                letters++;
                at++;
            }
            kind = letters > 6 ? TOKEN_WRONG : TOKEN_WORD;
        }

        // No number may be above 99999, so the digits of a longer one are all one.
        void takeDigits() {
            kind = TOKEN_NUMBER;
            while (at < end && isDigit(bytes[at])) {
                value = Math.min(100000, value * 10 + bytes[at] - 48);
                at++;
            }
        }

        void takeSign() {
            int sign = bytes[at];
            at++;
            int behind = at < end ? bytes[at] : 0;
            value = signOf(sign);
            if (value == KNOT_LESS && behind == '>') {
                value = KNOT_UNLIKE;
                at++;
            } else if (value == KNOT_LESS && behind == '=') {
                value = KNOT_LESS_SAME;
                at++;
            } else if (value == KNOT_MORE && behind == '=') {
                value = KNOT_MORE_SAME;
                at++;
            }
            kind = value == NONE ? TOKEN_WRONG : TOKEN_SIGN;
        }

        static int signOf(int sign) {
            switch (sign) {
                case ';':
                    return SIGN_ENDS;
                case '(':
                    return SIGN_OPEN;
                case ')':
                    return SIGN_CLOSE;
                case '+':
                    return KNOT_PLUS;
                case '-':
                    return KNOT_MINUS;
                case '*':
                    return KNOT_TIMES;
                case '/':
                    return KNOT_BY;
                case '<':
                    return KNOT_LESS;
                case '=':
                    return KNOT_SAME;
                case '>':
                    return KNOT_MORE;
                default:
                    return NONE;
            }
        }

        static boolean isLetter(int sign) {
            return sign >= 'a' && sign <= 'z';
        }

        static boolean isDigit(int sign) {
            return sign >= '0' && sign <= '9';
        }
    }

    /** Reads a text line by line up to its first fault. */
    private static final class Reader {
        private static final int[] LANGUAGE = {
            SAYS_BOX, SAYS_TOOTH, SAYS_KIN, SAYS_GUEST, SAYS_DAMP, SAYS_SEED, SAYS_LAW,
            SAYS_WEAR, SAYS_SOUR, SAYS_CHARM, SAYS_OR, SAYS_AND, SAYS_NOT,
            SAYS_SPRING, SAYS_SLOW, SAYS_PINS, SAYS_FALSE, SAYS_TEETH, SAYS_PLAYS, SAYS_YEAR
        };

        final Scanner tape;
        final LawReader lawReader;
        Tale tale;
        int fault = 0;
        int faultAt = NONE;

        Reader(Scanner tape) {
            this.tape = tape;
            lawReader = new LawReader(tape);
        }

        void readAll(Tale into, int length) {
            tale = into;
            tale.clear();
            fault = 0;
            faultAt = NONE;
            tape.begin(length);
            for (int i = 0; i < TAPE_MOST && fault == 0 && tape.kind != TOKEN_END; i++) {
                readLine();
                if (fault == 0) {
                    tale.lines++;
                }
            }
        }

        void fail(int number) {
            if (fault == 0) {
                fault = number;
                faultAt = tape.start;
            }
        }

        // A step behind a fault does nothing, so a line can be read without asking at every step.
        void check(boolean holds, int number) {
            if (!holds) {
                fail(number);
            }
        }

        void step() {
            if (fault == 0) {
                tape.next();
            }
        }

        void readLine() {
            switch (tape.kind == TOKEN_WORD ? tape.value : 0) {
                case SAYS_BOX:
                    readBox();
                    break;
                case SAYS_TOOTH:
                    readTooth();
                    break;
                case SAYS_KIN:
                    readKin();
                    break;
                case SAYS_GUEST:
                    readGuest();
                    break;
                case SAYS_DAMP:
                    readDamp();
                    break;
                case SAYS_SEED:
                    readSeed();
                    break;
                case SAYS_LAW:
                    readLaw();
                    break;
                default:
                    fail(FAULT_TOKEN);
            }
            check(tape.isSign(SIGN_ENDS), FAULT_TOKEN);
            step();
        }

        void readBox() {
            check(tale.count < BOXES_MOST, FAULT_MUCH);
            step();
            int name = takeName();
            check(tale.boxNamed(name) == NONE, FAULT_TWICE);
            step();
            if (fault == 0) {
                Box it = tale.boxes[tale.count];
                it.name = name;
                it.spring = takeNumber(0, SPRING_MOST);
                it.slow = takeNumber(1, 9);
                it.pinned = 0;
                for (int k = 0; k < PLACES; k++) {
                    it.drum[k] = takeNumber(0, 9);
                    it.pinned += it.drum[k] > 0 ? 1 : 0;
                }
                it.missing = 0;
                it.kinBits = 0;
                tale.count++;
            }
        }

        void readTooth() {
            check(tale.teeth < TEETH_MOST, FAULT_MUCH);
            step();
            int box = takeBox();
            step();
            int tooth = tape.value;
            checkNumber(1, TOOTH_MOST);
            if (fault == 0) {
                check(!tale.boxes[box].misses(tooth), FAULT_TWICE);
                tale.boxes[box].missing |= 1 << tooth;
                tale.teeth++;
            }
            step();
        }

        void readKin() {
            check(tale.kins < KIN_MOST, FAULT_MUCH);
            step();
            int one = takeBox();
            step();
            int other = takeBox();
            if (fault == 0) {
                check(!tale.boxes[one].isKinOf(other), FAULT_TWICE);
                check(one != other, FAULT_ITSELF);
                tale.boxes[one].kinBits |= 1 << other;
                tale.boxes[other].kinBits |= 1 << one;
                tale.kins++;
            }
            step();
        }

        void readGuest() {
            check(tale.guests < GUESTS_MOST, FAULT_MUCH);
            step();
            int name = takeName();
            check(tale.guestNamed(name) == NONE, FAULT_TWICE);
            step();
            int wait = takeNumber(0, 99);
            int degree = takeNumber(0, 9);
            if (fault == 0) {
                tale.guestNames[tale.guests] = name;
                tale.waits[tale.guests] = wait;
                tale.degrees[tale.guests] = degree;
                tale.guests++;
            }
        }

        void readDamp() {
            check(!tale.isDampTold, FAULT_TWICE);
            step();
            tale.damp = takeNumber(0, 100);
            tale.isDampTold = true;
        }

        void readSeed() {
            check(!tale.isSeedTold, FAULT_TWICE);
            step();
            tale.seed = takeNumber(0, 99999);
            tale.isSeedTold = true;
        }

        void readLaw() {
            step();
            int law = tape.isWord(SAYS_WEAR) ? LAW_WEAR : tape.isWord(SAYS_SOUR) ? LAW_SOUR
                    : tape.isWord(SAYS_CHARM) ? LAW_CHARM : NONE;
            check(law != NONE, FAULT_TOKEN);
            if (law != NONE) {
                check(!tale.laws.isTold(law), FAULT_TWICE);
                step();
            }
            if (fault == 0) {
                int wrong = lawReader.readInto(tale.laws, law);
                check(wrong == 0, wrong);
            }
        }

        /** The letters of a name of one's own; the token stays. */
        int takeName() {
            check(tape.kind == TOKEN_WORD && !isOfLanguage(tape.value), FAULT_TOKEN);
            return tape.value;
        }

        /** The box that is named; the token stays. */
        int takeBox() {
            int box = tale.boxNamed(takeName());
            check(box != NONE, FAULT_UNTOLD);
            return box;
        }

        void checkNumber(int least, int most) {
            check(tape.kind == TOKEN_NUMBER, FAULT_TOKEN);
            check(tape.value >= least && tape.value <= most, FAULT_MUCH);
        }

        int takeNumber(int least, int most) {
            int number = tape.value;
            checkNumber(least, most);
            if (fault == 0) {
                tape.next();
            }
            return number;
        }

        static boolean isOfLanguage(int word) {
            for (int i = 0; i < LANGUAGE.length; i++) {
                if (LANGUAGE[i] == word) {
                    return true;
                }
            }
            return false;
        }
    }

    /** Reads the E of a law: signs wait until what binds closer has been put. */
    private static final class LawReader {
        final Scanner tape;
        final int[] waiting = new int[KNOTS_MOST + OPEN_MOST];
        Laws laws;
        int waits;
        int knots;
        int open;
        int comparedBits;
        boolean isOperandDue;
        boolean mayBeNot;

        LawReader(Scanner tape) {
            this.tape = tape;
        }

        /** Reads up to the ';' of the line; answers the fault of the token that is looked at, or 0. */
        int readInto(Laws into, int law) {
            laws = into;
            waits = 0;
            knots = laws.knots;
            open = 0;
            comparedBits = 0;
            isOperandDue = true;
            mayBeNot = true;
            int from = laws.knots;
            for (int i = 0; i < TAPE_MOST; i++) {
                if (!isOperandDue && open == 0 && tape.isSign(SIGN_ENDS)) {
                    putAbove(0);
                    laws.from[law] = from;
                    laws.until[law] = laws.knots;
                    return 0;
                }
                int wrong = isOperandDue ? takeOperand() : takeJoint();
                if (wrong != 0) {
                    return wrong;
                }
                tape.next();
            }
            return FAULT_TOKEN;
        }

        int takeOperand() {
            if (tape.isSign(SIGN_OPEN)) {
                return takeOpen();
            }
            boolean isNot = mayBeNot && tape.isWord(SAYS_NOT);
            int kind = isNot ? KNOT_NOT : operandKind();
            if (kind == NONE) {
                return FAULT_TOKEN;
            }
            if (knots == KNOTS_MOST || kind == KNOT_NUMBER && tape.value > 9999) {
                return FAULT_MUCH;
            }
            knots++;
            if (isNot) {
                await(KNOT_NOT);
            } else {
                laws.put(kind, kind == KNOT_NUMBER ? tape.value : 0);
                isOperandDue = false;
            }
            return 0;
        }

        int takeOpen() {
            if (open == OPEN_MOST) {
                return FAULT_MUCH;
            }
            await(SIGN_OPEN);
            open++;
            comparedBits &= ~(1 << open);
            mayBeNot = true;
            return 0;
        }

        int takeJoint() {
            if (open > 0 && tape.isSign(SIGN_CLOSE)) {
                putAbove(0);
                waits--;
                open--;
                return 0;
            }
            int kind = jointKind();
            boolean compares = kind >= KNOT_LESS && kind <= KNOT_MORE;
            if (kind == NONE || compares && (comparedBits >> open & 1) == 1) {
                return FAULT_TOKEN;
            }
            if (knots == KNOTS_MOST) {
                return FAULT_MUCH;
            }
            knots++;
            putAbove(rank(kind));
            await(kind);
            isOperandDue = true;
            mayBeNot = kind == KNOT_AND || kind == KNOT_OR;
            if (compares) {
                comparedBits |= 1 << open;
            } else if (mayBeNot) {
                comparedBits &= ~(1 << open);
            }
            return 0;
        }

        void await(int kind) {
            if (waits < waiting.length) {
                waiting[waits] = kind;
                waits++;
            }
        }

        /** Puts what waits behind the last '(' and binds as close as that rank at least. */
        void putAbove(int rank) {
            while (waits > 0 && waiting[waits - 1] != SIGN_OPEN && rank(waiting[waits - 1]) >= rank) {
                waits--;
                laws.put(waiting[waits], 0);
            }
        }

        int operandKind() {
            if (tape.kind == TOKEN_NUMBER) {
                return KNOT_NUMBER;
            }
            switch (tape.kind == TOKEN_WORD ? tape.value : 0) {
                case SAYS_SPRING:
                    return KNOT_SPRING;
                case SAYS_SLOW:
                    return KNOT_SLOW;
                case SAYS_PINS:
                    return KNOT_PINS;
                case SAYS_FALSE:
                    return KNOT_FALSE;
                case SAYS_TEETH:
                    return KNOT_TEETH;
                case SAYS_PLAYS:
                    return KNOT_PLAYS;
                case SAYS_YEAR:
                    return KNOT_YEAR;
                default:
                    return NONE;
            }
        }

        int jointKind() {
            if (tape.isWord(SAYS_OR)) {
                return KNOT_OR;
            }
            if (tape.isWord(SAYS_AND)) {
                return KNOT_AND;
            }
            return tape.kind == TOKEN_SIGN && tape.value <= KNOT_BY ? tape.value : NONE;
        }

        static int rank(int kind) {
            if (kind >= KNOT_TIMES) {
                return 6;
            }
            if (kind >= KNOT_PLUS) {
                return 5;
            }
            return kind >= KNOT_LESS ? 4 : kind - KNOT_OR + 1;
        }
    }
}
