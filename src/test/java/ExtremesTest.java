import java.lang.reflect.InvocationTargetException;
import java.lang.reflect.Method;
import java.lang.reflect.Modifier;
import java.util.ArrayList;
import java.util.List;
import java.util.NoSuchElementException;

/**
 * No call throws, whatever it is given and whatever is so: none but light() and mean(), and these just a
 * NoSuchElementException.
 */
public final class ExtremesTest {
    private static final Checks C = new Checks();
    private static final int[] FEW = {Integer.MIN_VALUE, -1, 0, 1, 7, 8, 30, 60, Integer.MAX_VALUE};
    private static final int[] MANY = {Integer.MIN_VALUE, Integer.MIN_VALUE + 1, -1000, -2, -1, 0, 1, 2, 3, 4, 5, 6, 7, 8, 9,
        10, 11, 19, 20, 21, 30, 31, 59, 60, 61, 159, 160, 161, 255, 256, 399, 400, 511, 512, 939, 940, 941, 998, 999, 1000,
        3599, 3600, 3601, 65535, Integer.MAX_VALUE - 1, Integer.MAX_VALUE};

    private int calls;

    public static void main(String[] args) throws IllegalAccessException {
        for (CoastLights x : states()) {
            new ExtremesTest().all(x);
        }
        C.close();
    }

    private static List<CoastLights> states() {
        String full = Checks.eight("19 19 30 green 999") + "flash a 20 20;".repeat(4) + "flash h 1 1;".repeat(4)
            + "from a 59;from h 59;ship p 0 0 0 1;ship q 19 19 1 60;ship r 19 0 7 2;ship s 9 9 8 1;haze 1;";
        List<CoastLights> all = new ArrayList<>();
        all.add(new CoastLights());
        all.add(Checks.of(Checks.COAST));
        all.add(Checks.of(full));
        CoastLights over = Checks.of(full);
        Checks.sentence(over, "not (out and shining) or like h and by s or number > 7");
        Checks.goTo(over, 3600);
        over.image(1);
        all.add(over);
        CoastLights filled = Checks.of(full);
        Checks.lay(filled, "(".repeat(940));
        all.add(filled);
        CoastLights shrunk = Checks.of(full);
        shrunk.image(0);
        shrunk.seconds(60);
        Checks.fits(shrunk, 3);
        Checks.chart(shrunk, "ship a 0 0 5 1;");
        all.add(shrunk);
        return all;
    }

    private void all(CoastLights x) throws IllegalAccessException {
        for (Method m : CoastLights.class.getDeclaredMethods()) {
            if (Modifier.isPublic(m.getModifiers())) {
                int n = m.getParameterCount();
                with(x, m, new Object[n], 0, n < 3 ? MANY : FEW);
            }
        }
        C.due("calls were made", calls > 5000, true);
    }

    private void with(CoastLights x, Method m, Object[] given, int from, int[] values) throws IllegalAccessException {
        if (from == given.length || from == 3) {
            for (int i = from; i < given.length; i++) {
                given[i] = given[i - 3];
            }
            once(x, m, given);
            return;
        }
        for (int v : values) {
            given[from] = v;
            with(x, m, given, from + 1, values);
        }
    }

    private void once(CoastLights x, Method m, Object[] given) throws IllegalAccessException {
        calls++;
        try {
            m.invoke(x, given);
        } catch (InvocationTargetException e) {
            boolean told = e.getCause() instanceof NoSuchElementException
                && (m.getName().equals("light") || m.getName().equals("mean"));
            C.due(m.getName() + java.util.Arrays.toString(given) + " threw " + e.getCause(), told, true);
        }
    }
}
