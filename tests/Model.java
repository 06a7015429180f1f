import java.math.BigInteger;
import java.util.ArrayList;
import java.util.Arrays;
import java.util.Collections;
import java.util.List;
import java.util.regex.Matcher;
import java.util.regex.Pattern;

/** The document once more, in its slowest plain form and in other ways than the class, to compare it with. */
final class Model {
    private static final List<String> LANGUAGE = List.of("box", "tooth", "kin", "guest", "damp", "seed", "law", "wear",
        "sour", "charm", "or", "and", "not", "spring", "slow", "pins", "false", "teeth", "plays", "year");
    private static final List<String> LAWS = List.of("wear", "sour", "charm");
    private static final BigInteger MOST = BigInteger.TEN.pow(12);

    static final class Fault extends RuntimeException {
        private static final long serialVersionUID = 1;
        final int number;
        final int place;

        Fault(int number, int place) {
            super(null, null, false, false);
            this.number = number;
            this.place = place;
        }
    }

    static final class Mistake extends RuntimeException {
        private static final long serialVersionUID = 1;

        Mistake() {
            super(null, null, false, false);
        }
    }

    /** A node of an E: a number, a name, or a sign over parts. */
    static final class Node {
        final String word;
        final Node[] parts;

        Node(String word, Node... parts) {
            this.word = word;
            this.parts = parts;
        }

        BigInteger worth(BoxNow box, int year) {
            BigInteger[] v = new BigInteger[parts.length];
            for (int i = 0; i < v.length; i++) {
                v[i] = parts[i].worth(box, year);
            }
            BigInteger value;
            switch (word) {
                case "spring": value = BigInteger.valueOf(box.spring); break;
                case "slow": value = BigInteger.valueOf(box.told.slow); break;
                case "pins": value = BigInteger.valueOf(Arrays.stream(box.told.pins).filter(p -> p > 0).count()); break;
                case "false": value = BigInteger.valueOf(box.falseness); break;
                case "teeth": value = BigInteger.valueOf(box.missing.stream().distinct().count()); break;
                case "plays": value = BigInteger.valueOf(box.played); break;
                case "year": value = BigInteger.valueOf(year); break;
                case "not": value = bit(v[0].signum() == 0); break;
                case "and": value = bit(v[0].signum() != 0 && v[1].signum() != 0); break;
                case "or": value = bit(v[0].signum() != 0 || v[1].signum() != 0); break;
                case "<": value = bit(v[0].compareTo(v[1]) < 0); break;
                case "<=": value = bit(v[0].compareTo(v[1]) <= 0); break;
                case "=": value = bit(v[0].equals(v[1])); break;
                case "<>": value = bit(!v[0].equals(v[1])); break;
                case ">=": value = bit(v[0].compareTo(v[1]) >= 0); break;
                case ">": value = bit(v[0].compareTo(v[1]) > 0); break;
                case "+": value = v[0].add(v[1]); break;
                case "-": value = v[0].subtract(v[1]); break;
                case "*": value = v[0].multiply(v[1]); break;
                case "/":
                    if (v[1].signum() == 0) {
                        throw new Mistake();
                    }
                    value = v[0].divide(v[1]);
                    break;
                default: value = new BigInteger(word);
            }
            if (value.abs().compareTo(MOST) > 0) {
                throw new Mistake();
            }
            return value;
        }

        private static BigInteger bit(boolean is) {
            return is ? BigInteger.ONE : BigInteger.ZERO;
        }
    }

    static final class BoxTold {
        String name;
        int spring;
        int slow;
        final int[] pins = new int[8];
        final List<Integer> missing = new ArrayList<>();
        final List<Integer> kin = new ArrayList<>();
    }

    static final class GuestTold {
        String name;
        int wait;
        int degree;
    }

    static final class Told {
        final List<BoxTold> boxes = new ArrayList<>();
        final List<GuestTold> guests = new ArrayList<>();
        final Node[] laws = new Node[3];
        int teeth;
        int kin;
        int damp = -1;
        int seed = -1;
        int knots;
        int lines;

        int boxNamed(String name) {
            for (int i = 0; i < boxes.size(); i++) {
                if (boxes.get(i).name.equals(name)) {
                    return i;
                }
            }
            return -1;
        }

        int guestNamed(String name) {
            for (int i = 0; i < guests.size(); i++) {
                if (guests.get(i).name.equals(name)) {
                    return i;
                }
            }
            return -1;
        }
    }

    static final class BoxNow {
        BoxTold told;
        int spring;
        int falseness;
        int played;
        int laughter;
        boolean stolen;
        List<Integer> missing = new ArrayList<>();

        BoxNow copy() {
            BoxNow c = new BoxNow();
            c.told = told;
            c.spring = spring;
            c.falseness = falseness;
            c.played = played;
            c.laughter = laughter;
            c.stolen = stolen;
            c.missing = new ArrayList<>(missing);
            return c;
        }

        int heard(int k) {
            int pin = told.pins[k];
            if (pin == 0 || missing.contains(pin)) {
                return 0;
            }
            return Math.min(9, pin + falseness / 5);
        }
    }

    /** All that an image keeps. */
    static final class World {
        Told told;
        List<BoxNow> boxes = new ArrayList<>();
        int year;
        long number;
        int damps;

        World copy() {
            World c = new World();
            c.told = told;
            for (BoxNow b : boxes) {
                c.boxes.add(b.copy());
            }
            c.year = year;
            c.number = number;
            c.damps = damps;
            return c;
        }

        int draw() {
            number = (number * 1103515245L + 12345L) % (1L << 31);
            return (int) (number / 65536);
        }

        int damp() {
            return Math.max(0, told.damp);
        }

        boolean isDrawnDamp() {
            if (damp() == 0) {
                return false;
            }
            return damp() == 100 || draw() % 100 < damp();
        }

        int law(int law, BoxNow box, int most, int without) {
            if (told.laws[law] == null) {
                return without;
            }
            try {
                BigInteger value = told.laws[law].worth(box, year);
                return value.max(BigInteger.ZERO).min(BigInteger.valueOf(most)).intValue();
            } catch (Mistake m) {
                return without;
            }
        }

        void play() {
            for (BoxNow b : boxes) {
                if (!b.stolen && b.spring > 0) {
                    b.played++;
                    int heard = 0;
                    for (int k = 0; k < 8; k++) {
                        heard += b.heard(k) > 0 ? 1 : 0;
                    }
                    b.laughter += law(2, b, 99, heard);
                    b.spring = Math.max(0, b.spring - law(0, b, 9, 1));
                }
            }
        }

        void go(boolean isDamp) {
            play();
            end(isDamp);
        }

        void goByChance() {
            play();
            end(isDrawnDamp());
        }

        void end(boolean isDamp) {
            if (isDamp) {
                damps++;
                for (BoxNow b : boxes) {
                    b.falseness = Math.min(99, b.falseness + law(1, b, 9, 1));
                }
            }
            year++;
        }

        void goes(int n) {
            for (int i = 0; i < n; i++) {
                go(damp() >= 50);
            }
        }

        int laughter() {
            int sum = 0;
            for (BoxNow b : boxes) {
                sum += b.laughter;
            }
            return sum;
        }
    }

    /** Recursive descent along the grammar of the document. */
    static final class Parser {
        final String text;
        final Told told = new Told();
        final List<String> tokens = new ArrayList<>();
        final List<Integer> places = new ArrayList<>();
        int i;
        int open;

        Parser(String text) {
            this.text = text;
            Matcher m = Pattern.compile("([a-z]+|[0-9]+|<=|<>|>=|[-;()+*/<=>])|[ \n]+|([\\s\\S])").matcher(text);
            while (m.find()) {
                if (m.group(1) != null || m.group(2) != null) {
                    tokens.add(m.group(1) != null ? m.group(1) : "?");
                    places.add(m.start());
                }
            }
            tokens.add("");
            places.add(text.length());
        }

        String look() {
            String t = tokens.get(i);
            if (t.equals("?") || t.matches("[a-z]{7,}")) {
                throw new Fault(1, places.get(i));
            }
            return t;
        }

        Fault fault(int number) {
            return new Fault(number, places.get(i));
        }

        void must(String sign) {
            if (!look().equals(sign)) {
                throw fault(1);
            }
            i++;
        }

        Told parse() {
            while (!look().isEmpty()) {
                line();
                must(";");
                told.lines++;
            }
            if (told.damp < 0) {
                told.damp = 0;
            }
            if (told.seed < 0) {
                told.seed = 0;
            }
            return told;
        }

        String own() {
            if (!look().matches("[a-z]{1,6}") || LANGUAGE.contains(look())) {
                throw fault(1);
            }
            return look();
        }

        int number(long least, long most) {
            if (!look().matches("[0-9]+")) {
                throw fault(1);
            }
            BigInteger n = new BigInteger(look());
            if (n.compareTo(BigInteger.valueOf(least)) < 0 || n.compareTo(BigInteger.valueOf(most)) > 0) {
                throw fault(2);
            }
            return n.intValue();
        }

        int numberPast(long least, long most) {
            int n = number(least, most);
            i++;
            return n;
        }

        int boxToldAhead() {
            int b = told.boxNamed(own());
            if (b < 0) {
                throw fault(4);
            }
            return b;
        }

        void line() {
            switch (look()) {
                case "box": {
                    if (told.boxes.size() >= 6) {
                        throw fault(2);
                    }
                    i++;
                    if (told.boxNamed(own()) >= 0) {
                        throw fault(3);
                    }
                    BoxTold b = new BoxTold();
                    b.name = own();
                    i++;
                    b.spring = numberPast(0, 99);
                    b.slow = numberPast(1, 9);
                    for (int k = 0; k < 8; k++) {
                        b.pins[k] = numberPast(0, 9);
                    }
                    told.boxes.add(b);
                    break;
                }
                case "tooth": {
                    if (told.teeth >= 12) {
                        throw fault(2);
                    }
                    i++;
                    BoxTold b = told.boxes.get(boxToldAhead());
                    i++;
                    int t = number(1, 9);
                    if (b.missing.contains(t)) {
                        throw fault(3);
                    }
                    i++;
                    b.missing.add(t);
                    told.teeth++;
                    break;
                }
                case "kin": {
                    if (told.kin >= 9) {
                        throw fault(2);
                    }
                    i++;
                    int one = boxToldAhead();
                    i++;
                    int other = boxToldAhead();
                    if (told.boxes.get(one).kin.contains(other)) {
                        throw fault(3);
                    }
                    if (one == other) {
                        throw fault(5);
                    }
                    i++;
                    told.boxes.get(one).kin.add(other);
                    told.boxes.get(other).kin.add(one);
                    told.kin++;
                    break;
                }
                case "guest": {
                    if (told.guests.size() >= 5) {
                        throw fault(2);
                    }
                    i++;
                    GuestTold g = new GuestTold();
                    g.name = own();
                    if (told.guestNamed(g.name) >= 0) {
                        throw fault(3);
                    }
                    i++;
                    g.wait = numberPast(0, 99);
                    g.degree = numberPast(0, 9);
                    told.guests.add(g);
                    break;
                }
                case "damp":
                    if (told.damp >= 0) {
                        throw fault(3);
                    }
                    i++;
                    told.damp = numberPast(0, 100);
                    break;
                case "seed":
                    if (told.seed >= 0) {
                        throw fault(3);
                    }
                    i++;
                    told.seed = numberPast(0, 99999);
                    break;
                case "law": {
                    i++;
                    int law = LAWS.indexOf(look());
                    if (law < 0) {
                        throw fault(1);
                    }
                    if (told.laws[law] != null) {
                        throw fault(3);
                    }
                    i++;
                    told.laws[law] = e();
                    break;
                }
                default:
                    throw fault(1);
            }
        }

        String knot() {
            if (told.knots >= 64) {
                throw fault(2);
            }
            told.knots++;
            return tokens.get(i++);
        }

        Node e() {
            Node left = a();
            while (look().equals("or")) {
                String sign = knot();
                left = new Node(sign, left, a());
            }
            return left;
        }

        Node a() {
            Node left = b();
            while (look().equals("and")) {
                String sign = knot();
                left = new Node(sign, left, b());
            }
            return left;
        }

        Node b() {
            if (look().equals("not")) {
                String sign = knot();
                return new Node(sign, b());
            }
            return c();
        }

        Node c() {
            Node left = s();
            if (List.of("<", "<=", "=", "<>", ">=", ">").contains(look())) {
                String sign = knot();
                left = new Node(sign, left, s());
            }
            return left;
        }

        Node s() {
            Node left = t();
            while (look().equals("+") || look().equals("-")) {
                String sign = knot();
                left = new Node(sign, left, t());
            }
            return left;
        }

        Node t() {
            Node left = p();
            while (look().equals("*") || look().equals("/")) {
                String sign = knot();
                left = new Node(sign, left, p());
            }
            return left;
        }

        Node p() {
            String t = look();
            if (t.equals("(")) {
                if (open == 8) {
                    throw fault(2);
                }
                open++;
                i++;
                Node inner = e();
                must(")");
                open--;
                return inner;
            }
            if (t.matches("[0-9]+")) {
                number(0, 9999);
                return new Node(new BigInteger(knot()).toString());
            }
            if (List.of("spring", "slow", "pins", "false", "teeth", "plays", "year").contains(t)) {
                return new Node(knot());
            }
            throw fault(1);
        }
    }

    /** One that was found: at a place so much is heard or isn't, or a strike of another. */
    static final class Found {
        int place;
        int heard;
        boolean is;
        int strikes = -1;
    }

    private final StringBuilder tape = new StringBuilder();
    private World world = new World();
    private World image;
    private final List<World> before = new ArrayList<>();
    private final List<Found> found = new ArrayList<>();
    private int known = -1;
    private int fault;
    private int faultAt = -1;

    Model() {
        world.told = new Parser("").parse();
    }

    private int n() {
        return world.boxes.size();
    }

    private boolean no(int box) {
        return box < 0 || box >= n();
    }

    private boolean noBits(int bits) {
        return bits < 0 || bits >= 1 << n();
    }

    private BoxNow b(int box) {
        return world.boxes.get(box);
    }

    int feed(int... five) {
        if (tape.length() + 20 > 700) {
            return -1;
        }
        for (int four : five) {
            for (int shift = 24; shift >= 0; shift -= 8) {
                tape.append((char) (four >>> shift & 255));
            }
        }
        return tape.length();
    }

    int text(int n) {
        if (n < 0 || n > tape.length()) {
            return -2;
        }
        String text = tape.substring(0, n);
        tape.setLength(0);
        fault = 0;
        faultAt = -1;
        Told told;
        try {
            told = new Parser(text).parse();
        } catch (Fault f) {
            fault = f.number;
            faultAt = f.place;
            return -1;
        }
        world = new World();
        world.told = told;
        world.number = told.seed;
        for (BoxTold box : told.boxes) {
            BoxNow it = new BoxNow();
            it.told = box;
            it.spring = box.spring;
            it.missing = new ArrayList<>(box.missing);
            world.boxes.add(it);
        }
        image = null;
        before.clear();
        found.clear();
        known = -1;
        return told.lines;
    }

    int fault(int what) {
        return what == 0 ? fault : what == 1 ? faultAt : -1;
    }

    int named(int what, int letters) {
        if (what == 0) {
            for (int i = 0; i < n(); i++) {
                if (Check.letters(b(i).told.name) == letters) {
                    return i;
                }
            }
        }
        if (what == 1) {
            for (int i = 0; i < world.told.guests.size(); i++) {
                if (Check.letters(world.told.guests.get(i).name) == letters) {
                    return i;
                }
            }
        }
        return -1;
    }

    /** Ten million for an IndexOutOfBoundsException, twenty for a NoSuchElementException. */
    int box(int box, int what) {
        if (no(box)) {
            return 10000000;
        }
        BoxNow it = b(box);
        int bits = 0;
        for (int t : it.missing) {
            bits |= 1 << t;
        }
        int[] all = {it.spring, it.told.slow, it.falseness, it.played, it.laughter, it.stolen ? 1 : 0, bits};
        return what >= 0 && what < all.length ? all[what] : 20000000;
    }

    int pin(int box, int k) {
        return no(box) || k < 0 || k > 7 ? -1 : b(box).told.pins[k];
    }

    int heard(int box, int k) {
        return no(box) || k < 0 || k > 7 ? -1 : b(box).heard(k);
    }

    int guest(int guest, int what) {
        if (guest < 0 || guest >= world.told.guests.size() || what < 0 || what > 1) {
            return -1;
        }
        GuestTold g = world.told.guests.get(guest);
        return what == 0 ? g.wait : g.degree;
    }

    int kin(int one, int other) {
        return no(one) || no(other) ? -1 : b(one).told.kin.contains(other) ? 1 : 0;
    }

    long law(int what, int box) {
        if (what < 0 || what > 2 || no(box) || world.told.laws[what] == null) {
            return Long.MIN_VALUE;
        }
        try {
            return world.told.laws[what].worth(b(box), world.year).longValueExact();
        } catch (Mistake m) {
            return Long.MIN_VALUE;
        }
    }

    private void change() {
        before.add(world.copy());
        if (before.size() > 20) {
            before.remove(0);
        }
    }

    int wind(int box, int turns) {
        if (no(box) || turns < 1 || turns > 99) {
            return -1;
        }
        if (b(box).stolen || b(box).spring == 99) {
            return -2;
        }
        change();
        b(box).spring = Math.min(99, b(box).spring + turns);
        return b(box).spring;
    }

    boolean steal(int box, boolean is) {
        if (no(box) || b(box).stolen == is) {
            return false;
        }
        change();
        b(box).stolen = is;
        return true;
    }

    boolean tooth(int box, int tooth, boolean isMissing) {
        if (no(box) || tooth < 1 || tooth > 9 || b(box).missing.contains(tooth) == isMissing) {
            return false;
        }
        change();
        if (isMissing) {
            b(box).missing.add(tooth);
        } else {
            b(box).missing.remove(Integer.valueOf(tooth));
        }
        return true;
    }

    int years(int n) {
        if (n < 0 || n > 99 || world.year + n > 9900) {
            return -1;
        }
        for (int i = 0; i < n; i++) {
            world.goByChance();
            before.clear();
        }
        return world.year;
    }

    int ahead(int box, int n, int what) {
        if (no(box) || n < 0 || n > 99 || what < 0 || what > 3) {
            return -1;
        }
        World w = world.copy();
        w.goes(n);
        BoxNow then = w.boxes.get(box);
        int[] all = {then.spring, then.falseness, then.laughter - b(box).laughter, then.played - b(box).played};
        return all[what];
    }

    int alike(int one, int other, int turn) {
        if (no(one) || no(other) || turn < 0 || turn > 7) {
            return -1;
        }
        int sum = 0;
        for (int k = 0; k < 8; k++) {
            int h = b(one).heard(k);
            sum += h != 0 && h == b(other).heard((k + turn) % 8) ? 1 : 0;
        }
        return sum;
    }

    int like(int one, int other, int what) {
        if (no(one) || no(other) || what < 0 || what > 1) {
            return -1;
        }
        int most = 0;
        for (int t = 0; t < 8; t++) {
            most = Math.max(most, alike(one, other, t));
        }
        int turn = 0;
        while (alike(one, other, turn) < most) {
            turn++;
        }
        return what == 0 ? turn : most;
    }

    private boolean isStruck(int i, int n) {
        for (int k = 0; k < n; k++) {
            if (found.get(k).strikes == i && !isStruck(k, n)) {
                return true;
            }
        }
        return false;
    }

    private boolean fits(BoxNow box) {
        int n = known < 0 ? found.size() : known;
        for (int i = 0; i < n; i++) {
            Found f = found.get(i);
            if (f.strikes < 0 && !isStruck(i, n) && f.is != (box.heard(f.place) == f.heard)) {
                return false;
            }
        }
        return true;
    }

    int whose() {
        int bits = 0;
        for (int i = 0; i < n(); i++) {
            bits += fits(b(i)) ? 1 << i : 0;
        }
        return bits;
    }

    int fill(int box, int tooth) {
        if (no(box) || tooth < 1 || tooth > 9) {
            return -1;
        }
        if (!b(box).missing.contains(tooth)) {
            return -2;
        }
        int best = 0;
        int most = -1;
        for (int v = 1; v <= 9; v++) {
            int sum = 0;
            for (int other : b(box).told.kin) {
                for (int k = 0; k < 8; k++) {
                    int h = b(box).told.pins[k] == tooth ? v : b(box).heard(k);
                    sum += h > 0 && h == b(other).heard(k) ? 1 : 0;
                }
            }
            if (sum > most) {
                most = sum;
                best = v;
            }
        }
        return best;
    }

    private static void orders(List<Integer> left, List<Integer> row, List<List<Integer>> all) {
        if (left.isEmpty()) {
            all.add(new ArrayList<>(row));
        }
        for (Integer next : left) {
            List<Integer> rest = new ArrayList<>(left);
            rest.remove(next);
            row.add(next);
            orders(rest, row, all);
            row.remove(row.size() - 1);
        }
    }

    private String sound(int box) {
        StringBuilder s = new StringBuilder();
        for (int k = 0; k < 8; k++) {
            s.append(b(box).heard(k));
        }
        return s.toString();
    }

    private int rowLength(List<Integer> row) {
        String last = "";
        int length = 0;
        for (int box : row) {
            String s = sound(box);
            int laid = 0;
            for (int m = 1; m <= 7 && !last.isEmpty(); m++) {
                laid = last.endsWith(s.substring(0, m)) ? m : laid;
            }
            length += 8 - laid;
            last = s;
        }
        return length;
    }

    int join(int boxes, int what) {
        if (noBits(boxes) || what < 0 || what > 6) {
            return -1;
        }
        List<Integer> left = new ArrayList<>();
        for (int i = 0; i < n(); i++) {
            if ((boxes & 1 << i) != 0) {
                left.add(i);
            }
        }
        List<List<Integer>> all = new ArrayList<>();
        orders(left, new ArrayList<>(), all);
        List<Integer> best = all.get(0);
        for (List<Integer> row : all) {
            if (rowLength(row) < rowLength(best)) {
                best = row;
            }
        }
        return what == 6 ? rowLength(best) : what < best.size() ? best.get(what) : -2;
    }

    int duet(int one, int other) {
        if (no(one) || no(other) || one == other) {
            return -1;
        }
        int[][] rows = new int[2][1100];
        for (int r = 0; r < 2; r++) {
            BoxNow it = b(r == 0 ? one : other);
            int minute = 0;
            for (int k = 0; minute < 1000; k++) {
                for (int s = 0; s < it.told.slow; s++) {
                    rows[r][minute++] = it.heard(k % 8);
                }
            }
        }
        for (int m = 0; m <= 999; m++) {
            if (rows[0][m] == rows[1][m] && rows[0][m] > 0) {
                return m;
            }
        }
        return -2;
    }

    int tree() {
        int[] group = new int[n()];
        for (int i = 0; i < n(); i++) {
            group[i] = i;
        }
        int sum = 0;
        for (int weight = 0; weight <= 8; weight++) {
            for (int i = 0; i < n(); i++) {
                for (int k = 0; k < i; k++) {
                    if (8 - alike(i, k, 0) == weight && group[i] != group[k]) {
                        sum += weight;
                        int old = group[i];
                        for (int g = 0; g < n(); g++) {
                            group[g] = group[g] == old ? group[k] : group[g];
                        }
                    }
                }
            }
        }
        return sum;
    }

    int far(int one, int other) {
        if (no(one) || no(other)) {
            return -1;
        }
        int[][] d = new int[n()][n()];
        for (int i = 0; i < n(); i++) {
            for (int k = 0; k < n(); k++) {
                d[i][k] = i == k ? 0 : kin(i, k) == 1 ? 1 : 1000;
            }
        }
        for (int m = 0; m < n(); m++) {
            for (int i = 0; i < n(); i++) {
                for (int k = 0; k < n(); k++) {
                    d[i][k] = Math.min(d[i][k], d[i][m] + d[m][k]);
                }
            }
        }
        return d[one][other] >= 1000 ? -2 : d[one][other];
    }

    int forged() {
        int bits = 0;
        for (int i = 0; i < n(); i++) {
            for (int k = 0; k < n(); k++) {
                if (i != k && kin(i, k) == 0 && alike(i, k, 0) >= 6) {
                    bits |= 1 << i | 1 << k;
                }
            }
        }
        return bits;
    }

    int lasts(int box) {
        if (no(box)) {
            return -1;
        }
        World w = world.copy();
        for (int n = 0; n <= 999; n++) {
            if (w.boxes.get(box).spring == 0) {
                return n;
            }
            w.goes(1);
        }
        return -2;
    }

    int winding(int n, int turns, int what) {
        if (n < 1 || n > 20 || turns < 0 || turns > 9 || what < 0 || what > 3) {
            return -1;
        }
        int most = -1;
        int[] best = new int[3];
        int m = Math.min(3, n());
        for (int code = 0; code < 1000; code++) {
            int[] t = {code / 100, code / 10 % 10, code % 10};
            if (t[0] + t[1] + t[2] > turns || m < 3 && t[2] > 0 || m < 2 && t[1] > 0 || m < 1 && t[0] > 0) {
                continue;
            }
            World w = world.copy();
            for (int i = 0; i < m; i++) {
                w.boxes.get(i).spring = Math.min(99, w.boxes.get(i).spring + t[i]);
            }
            w.goes(n);
            if (w.laughter() - world.laughter() > most) {
                most = w.laughter() - world.laughter();
                best = t;
            }
        }
        return what == 3 ? most : what < m ? best[what] : -2;
    }

    int laughBack(int box) {
        if (no(box)) {
            return -1;
        }
        int bits = 0;
        for (int g = 0; g < world.told.guests.size(); g++) {
            GuestTold it = world.told.guests.get(g);
            if (far(0, box) != -2 && it.degree >= far(0, box) && it.wait >= 8 * b(box).told.slow) {
                bits |= 1 << g;
            }
        }
        return bits;
    }

    private List<Integer> allRests(int box) {
        int laughter = ahead(box, 1, 2);
        int[][] has = new int[5][5];
        for (int i = 0; i < 5; i++) {
            for (int k = 0; k < 5; k++) {
                has[i][k] = i < k ? 0 : i > k ? laughter - i : laughter / 2 - i;
            }
        }
        List<Integer> rests = new ArrayList<>();
        for (int i = 0; i < 5; i++) {
            for (int k = 0; k < 5; k++) {
                boolean rest = true;
                for (int o = 0; o < 5; o++) {
                    rest &= has[o][k] <= has[i][k] && has[o][i] <= has[k][i];
                }
                if (rest) {
                    rests.add(10 * i + k);
                }
            }
        }
        return rests;
    }

    int rests(int box) {
        return no(box) ? -1 : allRests(box).size();
    }

    int rest(int box, int k) {
        if (no(box) || k < 0) {
            return -1;
        }
        return k < allRests(box).size() ? allRests(box).get(k) : -2;
    }

    int ask(int what) {
        if (what < 0 || what > 1) {
            return -1;
        }
        int best = -1;
        int least = 100;
        for (int k = 0; k < 8; k++) {
            int[] n = new int[10];
            for (int i = 0; i < n(); i++) {
                if ((whose() & 1 << i) != 0) {
                    n[b(i).heard(k)]++;
                }
            }
            int most = Arrays.stream(n).max().getAsInt();
            if (most < least) {
                least = most;
                best = k;
            }
        }
        return what == 0 ? best : least;
    }

    int stay(int boxes) {
        if (noBits(boxes)) {
            return -1;
        }
        int minutes = 0;
        for (int i = 0; i < n(); i++) {
            minutes += (boxes & 1 << i) != 0 ? 8 * b(i).told.slow : 0;
        }
        int bits = 0;
        for (int g = 0; g < world.told.guests.size(); g++) {
            bits |= world.told.guests.get(g).wait >= minutes ? 1 << g : 0;
        }
        return bits;
    }

    private void rows(List<Integer> row, List<List<Integer>> all) {
        all.add(new ArrayList<>(row));
        for (int next = 0; next < n(); next++) {
            if (!row.contains(next) && (row.isEmpty() || kin(row.get(row.size() - 1), next) == 1)) {
                row.add(next);
                rows(row, all);
                row.remove(row.size() - 1);
            }
        }
    }

    int line(int what) {
        if (what < 0 || what > 6) {
            return -1;
        }
        List<List<Integer>> all = new ArrayList<>();
        rows(new ArrayList<>(), all);
        List<Integer> best = Collections.max(all, (x, y) -> Integer.compare(x.size(), y.size()));
        for (List<Integer> row : all) {
            if (row.size() == best.size()) {
                best = row;
                break;
            }
        }
        return what == 0 ? best.size() : what <= best.size() ? best.get(what - 1) : -2;
    }

    int quote(int one, int other) {
        if (no(one) || no(other) || one == other) {
            return -1;
        }
        for (int n = 8; n > 0; n--) {
            for (int from = 0; from + n <= 8; from++) {
                String run = sound(one).substring(from, from + n);
                if (!run.contains("0") && sound(other).contains(run)) {
                    return n;
                }
            }
        }
        return 0;
    }

    int merriest() {
        int best = -2;
        for (int i = 0; i < n(); i++) {
            if (b(i).laughter > (best < 0 ? 0 : b(best).laughter)) {
                best = i;
            }
        }
        return best;
    }

    int silent() {
        int bits = 0;
        for (int i = 0; i < n(); i++) {
            bits |= b(i).stolen || b(i).spring == 0 ? 1 << i : 0;
        }
        return bits;
    }

    int runDown(int n) {
        if (n < 0 || n > 99) {
            return -1;
        }
        int bits = 0;
        for (int i = 0; i < n(); i++) {
            bits |= b(i).spring != 0 && ahead(i, n, 0) == 0 ? 1 << i : 0;
        }
        return bits;
    }

    int find(int place, int heard, boolean is) {
        if (place < 0 || place > 7 || heard < 0 || heard > 9 || found.size() == 24) {
            return -1;
        }
        Found f = new Found();
        f.place = place;
        f.heard = heard;
        f.is = is;
        found.add(f);
        return found.size() - 1;
    }

    int strike(int number) {
        if (number < 0 || number >= found.size() || found.size() == 24) {
            return -1;
        }
        Found f = new Found();
        f.strikes = number;
        found.add(f);
        return found.size() - 1;
    }

    boolean known(int n) {
        if (n < -1 || n > found.size()) {
            return false;
        }
        known = n;
        return true;
    }

    int sours(int box) {
        if (no(box)) {
            return -1;
        }
        int bits = 0;
        for (int k = 0; k < 10; k++) {
            BoxNow it = b(box).copy();
            it.falseness = 5 * k;
            bits |= fits(it) ? 1 << k : 0;
        }
        return bits;
    }

    int chance(int seed, int n, int box, int isFalse) {
        if (seed < 0 || n < 1 || n > 99 || no(box) || isFalse < 0 || isFalse > 99) {
            return -1;
        }
        long number = seed;
        int times = 0;
        for (int t = 0; t < 10; t++) {
            World w = world.copy();
            w.number = number;
            for (int i = 0; i < n; i++) {
                w.goByChance();
            }
            number = w.number;
            times += w.boxes.get(box).falseness >= isFalse ? 1 : 0;
        }
        return times;
    }

    int tried(int what, int i, int n) {
        if (what < 0 || what > 4 || n < 0 || n > 99 || (what == 2 ? no(i) : i != 0)) {
            return -1;
        }
        World w = world.copy();
        for (BoxNow it : w.boxes) {
            it.laughter = 0;
            if (what == 1) {
                it.stolen = false;
            } else if (what == 3) {
                it.missing.clear();
            } else if (what == 4) {
                it.spring = 99;
            }
        }
        if (what == 2) {
            w.boxes.remove(i);
        }
        for (int y = 0; y < n; y++) {
            w.go(what != 0 && w.damp() >= 50);
        }
        return w.laughter();
    }

    int undo() {
        if (before.isEmpty()) {
            return -1;
        }
        world = before.remove(before.size() - 1);
        return before.size();
    }

    int keep() {
        image = world.copy();
        return world.year;
    }

    int back() {
        if (image == null) {
            return -1;
        }
        world = image.copy();
        before.clear();
        return world.year;
    }

    int count(int what) {
        int played = 0;
        int stolen = 0;
        int teeth = 0;
        for (BoxNow it : world.boxes) {
            played += it.played;
            stolen += it.stolen ? 1 : 0;
            teeth += it.missing.size();
        }
        int[] all = {n(), world.told.kin, world.told.guests.size(), world.told.knots, world.year, played,
            world.laughter(), stolen, teeth, world.damps, found.size(), known < 0 ? found.size() : known,
            before.size()};
        return what >= 0 && what < all.length ? all[what] : -1;
    }
}
