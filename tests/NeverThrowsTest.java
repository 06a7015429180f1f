import java.lang.reflect.InvocationTargetException;
import java.lang.reflect.Method;
import java.lang.reflect.Modifier;
import java.util.ArrayList;
import java.util.Comparator;
import java.util.List;
import java.util.NoSuchElementException;
import java.util.Random;

/** Every call with any arguments in any state: nothing is thrown but by box. */
final class NeverThrowsTest {
    private static final String[] TOKENS = {"box a 5 2 1 2 3 4 0 5 6 7;", "box b 99 1 9 9 9 9 9 9 9 9;", "box ", "a ", "kin a b;",
        "tooth a 1;", "guest g 9 9;", "damp 50;", "seed 99999;", "law ", "wear ", "sour ", "charm ", "spring", "year", "(", ")",
        "+", "-", "*", "/", "<", ">", "=", ";", " not ", " and ", " or ", "9999", "0", "1", "\n", "?", "z"};

    public static void main(String[] args) throws Exception {
        List<Method> face = new ArrayList<>();
        for (Method m : LaughDrum.class.getDeclaredMethods()) {
            if (Modifier.isPublic(m.getModifiers())) {
                face.add(m);
            }
        }
        face.sort(Comparator.comparing(Method::getName));
        Random random = new Random(5);
        int thrown = 0;
        for (int run = 0; run < 600; run++) {
            LaughDrum drum = new LaughDrum();
            for (int call = 0; call < 512; call++) {
                if (call % 60 == 0) {
                    tell(drum, random);
                }
                thrown += ask(drum, face.get(random.nextInt(face.size())), random) ? 1 : 0;
            }
        }
        Check.due("calls that threw", thrown, 0);
        Check.end();
    }

    private static void tell(LaughDrum drum, Random random) {
        StringBuilder text = new StringBuilder();
        if (random.nextBoolean()) {
            text.append(TOKENS[0]).append(TOKENS[1]).append("kin b a;law charm spring*9999*9999*9999/false;");
        }
        for (int i = random.nextInt(60); i > 0; i--) {
            text.append(TOKENS[random.nextInt(TOKENS.length)]);
        }
        if (text.length() <= 700) {
            Check.text(drum, text.toString());
        }
    }

    private static int number(Random random) {
        switch (random.nextInt(12)) {
            case 0: return random.nextInt();
            case 1: return Integer.MIN_VALUE + random.nextInt(3);
            case 2: return Integer.MAX_VALUE - random.nextInt(3);
            case 3: return -1 - random.nextInt(3);
            case 4: return random.nextInt(1000);
            case 5: return 1 << random.nextInt(32);
            case 6: return random.nextInt(100);
            default: return random.nextInt(9);
        }
    }

    private static boolean ask(LaughDrum drum, Method method, Random random) throws IllegalAccessException {
        Class<?>[] types = method.getParameterTypes();
        Object[] values = new Object[types.length];
        for (int i = 0; i < types.length; i++) {
            values[i] = types[i] == boolean.class ? (Object) random.nextBoolean() : (Object) number(random);
        }
        try {
            method.invoke(drum, values);
            return false;
        } catch (InvocationTargetException e) {
            Class<?> kind = e.getCause().getClass();
            boolean isDue = method.getName().equals("box")
                && (kind == IndexOutOfBoundsException.class || kind == NoSuchElementException.class);
            if (!isDue) {
                System.out.println(method.getName() + java.util.Arrays.toString(values) + " threw " + e.getCause());
            }
            return !isDue;
        }
    }
}
