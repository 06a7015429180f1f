import java.util.ArrayList;
import java.util.List;
import java.util.NoSuchElementException;
import java.util.Random;

/** All promises: runs of calls by chance, each answer compared with the Model's. */
final class RandomTest {
    private static final int[] EDGES = {Integer.MIN_VALUE, Integer.MAX_VALUE, -2, -1, 0, 1, 2, 9, 10, 20, 21, 63, 64, 99, 100};
    private static final String[] TOKENS = {"box", "tooth", "kin", "guest", "damp", "seed", "law", "wear", "sour",
        "charm", "or", "and", "not", "spring", "slow", "pins", "false", "teeth", "plays", "year", "a", "b", "abcdefg",
        "0", "1", "9", "10", "99", "100", "101", "9999", "10000", "99999", "100000", ";", "(", ")", "+", "-", "*", "/",
        "<", "=", ">", "<=", "<>", ">=", "\n", "?", "\t", "A", "\u00ff"};

    private static final String[] GUESTS = {"a", "gh", "gha", "ghgha", "zzzzzz"};

    private final Random random;
    private final LaughDrum drum = new LaughDrum();
    private final Model model = new Model();
    private final StringBuilder told = new StringBuilder();

    private RandomTest(long seed) {
        random = new Random(seed);
    }

    public static void main(String[] args) {
        int runs = args.length > 0 ? Integer.parseInt(args[0]) : 400;
        long from = args.length > 1 ? Long.parseLong(args[1]) : 0;
        for (long seed = from; seed < from + runs; seed++) {
            new RandomTest(seed).run();
        }
        for (long seed = from; seed < from + 10L * runs; seed++) {
            new RandomTest(seed).faults();
        }
        Check.end();
    }

    private void run() {
        boolean isYears = random.nextInt(20) == 0;
        tell(text(), 0);
        for (int i = 0; i < 512 && told.indexOf("WRONG") < 0; i++) {
            int call = random.nextInt(1000);
            int promise = 5 + random.nextInt(43);
            if (call < 2) {
                tell(text(), random.nextInt(2));
            } else if (isYears && call < 500) {
                ask(15);
            } else if (promise == 46 && random.nextBoolean()) {
                ask(14);
            } else {
                ask(promise);
            }
        }
    }

    private void faults() {
        for (int i = 0; i < 10; i++) {
            tell(text(), 1 + random.nextInt(2));
            ask(47);
            ask(5);
        }
    }

    private void due(String call, long got, long want) {
        told.append(call).append(" -> ").append(want).append('\n');
        Check.due(call, got, want);
        if (got != want) {
            told.append("WRONG: ").append(got).append('\n');
            System.out.println(told);
        }
    }

    private void tell(String whole, int changes) {
        String text = whole;
        for (int i = 0; i < changes; i++) {
            text = changed(text);
        }
        byte[] bytes = new byte[(text.length() + 19) / 20 * 20];
        for (int i = 0; i < bytes.length; i++) {
            bytes[i] = (byte) (i < text.length() ? text.charAt(i) : ' ');
        }
        for (int i = 0; i < bytes.length; i += 20) {
            int[] v = new int[5];
            for (int k = 0; k < 20; k++) {
                v[k / 4] = v[k / 4] << 8 | bytes[i + k] & 255;
            }
            due("feed", drum.feed(v[0], v[1], v[2], v[3], v[4]), model.feed(v));
        }
        int length = random.nextInt(50) == 0 ? random.nextInt(800) - 50 : text.length();
        due("text of '" + text + "' " + length, drum.text(length), model.text(length));
        due("fault(0)", drum.fault(0), model.fault(0));
        due("fault(1)", drum.fault(1), model.fault(1));
    }

    private String changed(String text) {
        int at = random.nextInt(text.length() + 1);
        String token = TOKENS[random.nextInt(TOKENS.length)];
        int until = Math.min(text.length(), at + random.nextInt(4));
        switch (random.nextInt(5)) {
            case 0: return text.substring(0, at);
            case 1: return text.substring(0, at) + text.substring(until);
            case 2: return text.substring(0, at) + " " + token + " " + text.substring(at);
            case 3: return text.substring(0, at) + token + text.substring(until);
            default: {
                int line = text.lastIndexOf(';', Math.max(0, at - 1)) + 1;
                int end = text.indexOf(';', line) + 1;
                return end > line ? text + text.substring(line, end) : text + ";";
            }
        }
    }

    private String text() {
        List<String> lines = new ArrayList<>();
        int boxes = random.nextInt(8) == 0 ? random.nextInt(3) : 2 + random.nextInt(5);
        int[] base = new int[8];
        for (int k = 0; k < 8; k++) {
            base[k] = random.nextInt(10);
        }
        int few = 1 + random.nextInt(9);
        for (int i = 0; i < boxes; i++) {
            StringBuilder s = new StringBuilder("box ").append((char) ('a' + i));
            s.append(' ').append(random.nextInt(random.nextInt(3) == 0 ? 100 : 12));
            s.append(' ').append(1 + random.nextInt(9));
            int turn = random.nextInt(3) == 0 ? random.nextInt(8) : 0;
            for (int k = 0; k < 8; k++) {
                s.append(' ').append(random.nextInt(10) < few ? base[(k + turn) % 8] : random.nextInt(10));
            }
            lines.add(s.append(';').toString());
        }
        int kin = boxes < 2 ? 0 : random.nextInt(12);
        List<String> pairs = new ArrayList<>();
        for (int i = 0; i < kin; i++) {
            int one = random.nextInt(boxes);
            int other = random.nextInt(boxes);
            if (one != other && !pairs.contains(one + " " + other) && !pairs.contains(other + " " + one)) {
                pairs.add(one + " " + other);
                lines.add("kin " + (char) ('a' + one) + " " + (char) ('a' + other) + ";");
            }
        }
        int teeth = boxes == 0 ? 0 : random.nextInt(7);
        for (int i = 0; i < teeth; i++) {
            String line = "tooth " + (char) ('a' + random.nextInt(boxes)) + " " + (1 + random.nextInt(9)) + ";";
            if (!lines.contains(line)) {
                lines.add(line);
            }
        }
        int guests = random.nextInt(6);
        for (int i = 0; i < guests; i++) {
            lines.add("guest " + GUESTS[i] + " " + random.nextInt(100) + " " + random.nextInt(5) + ";");
        }
        if (random.nextInt(6) > 0) {
            int[] damps = {0, 100, 49, 50, random.nextInt(101), random.nextInt(101), random.nextInt(101)};
            lines.add("damp " + damps[random.nextInt(damps.length)] + ";");
        }
        if (random.nextInt(3) > 0) {
            lines.add("seed " + random.nextInt(100000) + ";");
        }
        for (String law : new String[] {"wear", "sour", "charm"}) {
            if (random.nextInt(3) > 0) {
                lines.add("law " + law + " " + e(random.nextInt(3)) + ";");
            }
        }
        StringBuilder s = new StringBuilder();
        for (String line : lines) {
            if (s.length() + line.length() < 690) {
                s.append(line);
                s.append(random.nextInt(20) == 0 ? "\n" : "");
            }
        }
        return s.toString();
    }

    /** An E along the grammar. */
    private String e(int depth) {
        String left = c(depth);
        int more = random.nextInt(4) == 0 ? 1 + random.nextInt(2) : 0;
        for (int i = 0; i < more; i++) {
            left += (random.nextBoolean() ? " and " : " or ") + c(depth);
        }
        return left;
    }

    private String c(int depth) {
        String[] signs = {"<", "<=", "=", "<>", ">=", ">"};
        String not = random.nextInt(10) == 0 ? "not " : "";
        String compared = random.nextInt(4) == 0 ? signs[random.nextInt(signs.length)] + s(depth) : "";
        return not + s(depth) + compared;
    }

    private String s(int depth) {
        String left = p(depth);
        int more = random.nextInt(3);
        for (int i = 0; i < more; i++) {
            left += "+-*/".charAt(random.nextInt(4)) + p(depth);
        }
        return left;
    }

    private String p(int depth) {
        String[] names = {"spring", "slow", "pins", "false", "teeth", "plays", "year"};
        if (depth > 0 && random.nextInt(3) == 0) {
            return "(" + e(depth - 1) + ")";
        }
        if (random.nextInt(3) > 0) {
            return names[random.nextInt(names.length)];
        }
        return Integer.toString(random.nextInt(random.nextInt(4) == 0 ? 10000 : 10));
    }

    private int edge() {
        return EDGES[random.nextInt(EDGES.length)];
    }

    private int upTo(int most) {
        return random.nextInt(40) == 0 ? edge() : random.nextInt(30) == 0 ? random.nextInt(most + 3) - 1 : random.nextInt(most + 1);
    }

    private int aBox() {
        return upTo(Math.max(0, model.count(0) - 1));
    }

    private int someBoxes() {
        return upTo((1 << model.count(0)) - 1);
    }

    private void ask(int promise) {
        int a = aBox();
        int b = aBox();
        switch (promise) {
            case 5: {
                int letters = Check.letters(new String[] {"a", "b", "f", "gh", "gha", "zzzzzz", "", "box"}[random.nextInt(8)]);
                int what = upTo(1);
                due("named(" + what + ", " + letters + ")", drum.named(what, letters), model.named(what, letters));
                break;
            }
            case 6: {
                int what = upTo(6);
                int got;
                try {
                    got = drum.box(a, what);
                } catch (IndexOutOfBoundsException e) {
                    got = 10000000;
                } catch (NoSuchElementException e) {
                    got = 20000000;
                }
                due("box(" + a + ", " + what + ")", got, model.box(a, what));
                break;
            }
            case 7: {
                int k = upTo(7);
                due("pin(" + a + ", " + k + ")", drum.pin(a, k), model.pin(a, k));
                break;
            }
            case 8: {
                int k = upTo(7);
                due("heard(" + a + ", " + k + ")", drum.heard(a, k), model.heard(a, k));
                break;
            }
            case 9: {
                int g = upTo(4);
                int what = upTo(1);
                due("guest(" + g + ", " + what + ")", drum.guest(g, what), model.guest(g, what));
                break;
            }
            case 10:
                due("kin(" + a + ", " + b + ")", drum.kin(a, b), model.kin(a, b));
                break;
            case 11: {
                int what = upTo(2);
                due("law(" + what + ", " + a + ")", drum.law(what, a), model.law(what, a));
                break;
            }
            case 12: {
                int turns = random.nextBoolean() ? upTo(9) : upTo(99);
                due("wind(" + a + ", " + turns + ")", drum.wind(a, turns), model.wind(a, turns));
                break;
            }
            case 13: {
                boolean is = random.nextInt(3) == 0;
                due("steal(" + a + ", " + is + ")", drum.steal(a, is) ? 1 : 0, model.steal(a, is) ? 1 : 0);
                break;
            }
            case 14: {
                int tooth = upTo(9);
                boolean is = random.nextInt(3) == 0;
                due("tooth(" + a + ", " + tooth + ", " + is + ")", drum.tooth(a, tooth, is) ? 1 : 0, model.tooth(a, tooth, is) ? 1 : 0);
                break;
            }
            case 15: {
                int n = random.nextInt(8) == 0 ? upTo(99) : upTo(2);
                due("years(" + n + ")", drum.years(n), model.years(n));
                break;
            }
            case 16: {
                int n = random.nextBoolean() ? upTo(99) : upTo(5);
                int what = upTo(3);
                due("ahead(" + a + ", " + n + ", " + what + ")", drum.ahead(a, n, what), model.ahead(a, n, what));
                break;
            }
            case 17: {
                int turn = upTo(7);
                due("alike(" + a + ", " + b + ", " + turn + ")", drum.alike(a, b, turn), model.alike(a, b, turn));
                break;
            }
            case 18: {
                int what = upTo(1);
                due("like(" + a + ", " + b + ", " + what + ")", drum.like(a, b, what), model.like(a, b, what));
                break;
            }
            case 19:
                due("whose()", drum.whose(), model.whose());
                break;
            case 20: {
                int tooth = upTo(9);
                due("fill(" + a + ", " + tooth + ")", drum.fill(a, tooth), model.fill(a, tooth));
                break;
            }
            case 21: {
                int boxes = someBoxes();
                int what = upTo(6);
                due("join(" + boxes + ", " + what + ")", drum.join(boxes, what), model.join(boxes, what));
                break;
            }
            case 22:
                due("duet(" + a + ", " + b + ")", drum.duet(a, b), model.duet(a, b));
                break;
            case 23:
                due("tree()", drum.tree(), model.tree());
                break;
            case 24:
                due("far(" + a + ", " + b + ")", drum.far(a, b), model.far(a, b));
                break;
            case 25:
                due("forged()", drum.forged(), model.forged());
                break;
            default:
                askMore(promise, a, b);
        }
    }

    private void askMore(int promise, int a, int b) {
        switch (promise) {
            case 26:
                due("lasts(" + a + ")", drum.lasts(a), model.lasts(a));
                break;
            case 27: {
                if (random.nextInt(3) > 0) {
                    break;
                }
                int n = random.nextBoolean() ? upTo(5) : upTo(20);
                int turns = random.nextInt(4) > 0 ? upTo(4) : upTo(9);
                int what = upTo(3);
                due("winding(" + n + ", " + turns + ", " + what + ")", drum.winding(n, turns, what), model.winding(n, turns, what));
                break;
            }
            case 28:
                due("laughBack(" + a + ")", drum.laughBack(a), model.laughBack(a));
                break;
            case 29:
                due("rests(" + a + ")", drum.rests(a), model.rests(a));
                break;
            case 30: {
                int k = upTo(3);
                due("rest(" + a + ", " + k + ")", drum.rest(a, k), model.rest(a, k));
                break;
            }
            case 31: {
                int what = upTo(1);
                due("ask(" + what + ")", drum.ask(what), model.ask(what));
                break;
            }
            case 32: {
                int boxes = someBoxes();
                due("stay(" + boxes + ")", drum.stay(boxes), model.stay(boxes));
                break;
            }
            case 33: {
                int what = upTo(6);
                due("line(" + what + ")", drum.line(what), model.line(what));
                break;
            }
            case 34:
                due("quote(" + a + ", " + b + ")", drum.quote(a, b), model.quote(a, b));
                break;
            case 35:
                due("merriest()", drum.merriest(), model.merriest());
                break;
            case 36:
                due("silent()", drum.silent(), model.silent());
                break;
            case 37: {
                int n = random.nextBoolean() ? upTo(99) : upTo(9);
                due("runDown(" + n + ")", drum.runDown(n), model.runDown(n));
                break;
            }
            case 38: {
                int place = upTo(7);
                int heard = random.nextBoolean() ? upTo(9) : model.heard(a, place);
                boolean is = random.nextInt(3) > 0;
                due("find(" + place + ", " + heard + ", " + is + ")", drum.find(place, heard, is), model.find(place, heard, is));
                break;
            }
            case 39: {
                int found = upTo(Math.max(0, model.count(10) - 1));
                due("strike(" + found + ")", drum.strike(found), model.strike(found));
                break;
            }
            case 40: {
                int n = random.nextBoolean() ? -1 : upTo(model.count(10));
                due("known(" + n + ")", drum.known(n) ? 1 : 0, model.known(n) ? 1 : 0);
                break;
            }
            case 41:
                due("sours(" + a + ")", drum.sours(a), model.sours(a));
                break;
            case 42: {
                int seed = random.nextBoolean() ? upTo(99999) : random.nextInt();
                int n = random.nextInt(4) == 0 ? upTo(99) : upTo(9);
                int isFalse = random.nextBoolean() ? upTo(99) : Math.max(0, model.ahead(a, n / 2, 1)) + upTo(4);
                due("chance(" + seed + ", " + n + ", " + a + ", " + isFalse + ")", drum.chance(seed, n, a, isFalse), model.chance(seed, n, a, isFalse));
                break;
            }
            case 43: {
                int what = upTo(4);
                int i = what == 2 ? a : upTo(0);
                int n = random.nextBoolean() ? upTo(99) : upTo(9);
                due("tried(" + what + ", " + i + ", " + n + ")", drum.tried(what, i, n), model.tried(what, i, n));
                break;
            }
            case 44:
                due("undo()", drum.undo(), model.undo());
                break;
            case 45:
                due("keep()", drum.keep(), model.keep());
                break;
            case 46:
                due("back()", drum.back(), model.back());
                break;
            default: {
                int what = upTo(12);
                due("count(" + what + ")", drum.count(what), model.count(what));
                break;
            }
        }
    }
}
