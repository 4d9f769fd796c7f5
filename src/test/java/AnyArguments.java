import java.lang.reflect.InvocationTargetException;
import java.lang.reflect.Method;
import java.lang.reflect.Modifier;
import java.util.ArrayList;
import java.util.Arrays;
import java.util.Comparator;
import java.util.List;
import java.util.Random;

/**
 * LANGUAGE.md, rule 7: no call throws, for any arguments in any state. Each call of the face with numbers from all
 * ends of int and long, in states that fixed seeds bring; the answers are the model's.
 */
public final class AnyArguments {
    private static final Due DUE = new Due("AnyArguments");
    private static final int RUNS = 300, CALLS = 512;
    private static final int[] NUMBERS = {Integer.MIN_VALUE, Integer.MIN_VALUE + 1, -65536, -256, -64, -33, -32, -31, -10,
        -9, -2, -1, 0, 1, 2, 3, 4, 5, 6, 7, 8, 9, 10, 11, 12, 13, 29, 30, 31, 32, 33, 55, 56, 63, 64, 65, 79, 80, 255, 256,
        257, 65536, Integer.MAX_VALUE - 1, Integer.MAX_VALUE};
    private static final long[] LONGS = {Long.MIN_VALUE, Long.MIN_VALUE + 1, -(1L << 32), Integer.MIN_VALUE, -1000, -1, 0,
        1, 99, 100, 109, 200, 301, 405, 599, 999, 1000, 101200, 999999, 1000000, Integer.MAX_VALUE, 1L << 32, 999999999L,
        1000000000L, 101200400000L, 999999999999L, 1000000000000L, Long.MAX_VALUE - 1, Long.MAX_VALUE};
    private static final String[] TEXTS = {"", "O", "OB11", "OP1900", "OP1100P1100P1100P1100P1100P1100B11",
        "OP1131P1230B11B11B11B11B11B11B11B11", "OP3300P2115P5231P4910P1130P2200B31B57B11B23B10",
        "OP9025P1931P2910P3500P4820P5104B90B01B52B47B63B20B81B10", "OP1X"};

    private final Random random;
    private final int run;
    private final HatGoesRound x = new HatGoesRound();
    private final Model model = new Model();

    private AnyArguments(int run) {
        this.run = run;
        random = new Random(run);
    }

    public static void main(String[] args) throws ReflectiveOperationException {
        List<Method> calls = calls();
        for (int run = 0; run < RUNS; run++) {
            new AnyArguments(run).play(calls);
        }
        DUE.end();
    }

    /** The calls of the face, in an order that is always the same. */
    private static List<Method> calls() {
        List<Method> calls = new ArrayList<>();
        for (Method m : HatGoesRound.class.getDeclaredMethods()) {
            if (Modifier.isPublic(m.getModifiers())) {
                calls.add(m);
            }
        }
        calls.sort(Comparator.comparing(Method::getName));
        return calls;
    }

    private void play(List<Method> calls) throws ReflectiveOperationException {
        String text = TEXTS[run % TEXTS.length];
        for (char letter : text.toCharArray()) {
            DUE.is("write", x.write(letter), model.write(letter));
        }
        DUE.is("concert of " + text, x.concert(), model.concert());
        for (int call = text.length() + 1; call < CALLS; call++) {
            Method m = calls.get(random.nextInt(calls.size()));
            // wiped or told anew too often, the concert would never be far on
            boolean isRare = m.getName().equals("wipe") || m.getName().equals("concert");
            ask(isRare && random.nextInt(8) > 0 ? HatGoesRound.class.getMethod("bar") : m);
        }
    }

    private void ask(Method m) throws ReflectiveOperationException {
        Object[] given = new Object[m.getParameterCount()];
        for (int i = 0; i < given.length; i++) {
            given[i] = any(m.getParameterTypes()[i]);
        }
        String call = "run " + run + " " + m.getName() + Arrays.toString(given);
        Method due = Model.class.getDeclaredMethod(m.getName(), m.getParameterTypes());
        long want = ((Number) due.invoke(model, given)).longValue();
        try {
            DUE.is(call, ((Number) m.invoke(x, given)).longValue(), want);
        } catch (InvocationTargetException thrown) {
            DUE.same(call, thrown.getCause().toString(), "no exception");
        }
    }

    private Object any(Class<?> type) {
        if (type == boolean.class) {
            return random.nextBoolean();
        }
        if (type == long.class) {
            return LONGS[random.nextInt(LONGS.length)];
        }
        // half of them small, so that what can be done is done, too
        return random.nextBoolean() ? random.nextInt(4) : NUMBERS[random.nextInt(NUMBERS.length)];
    }
}
