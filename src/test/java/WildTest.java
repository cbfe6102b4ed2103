import java.lang.reflect.InvocationTargetException;
import java.lang.reflect.Method;
import java.lang.reflect.Modifier;
import java.util.Arrays;

/**
 * Each call with arguments from all around, in several states: nothing is ever thrown. And 512 of
 * the dearest calls on one object, the last one answered as it should be.
 */
public final class WildTest {
    private static final int CALLS = 512;
    private static final int[] FAR = {Integer.MIN_VALUE, -1, 0, 2, 5, 100, Integer.MAX_VALUE};
    private static final int[] NEAR = {Integer.MIN_VALUE, -9, -1, 0, 1, 2, 3, 4, 5, 6, 7, 99, 100, 101, Integer.MAX_VALUE};
    private static final String[] TEXTS = {
        "j99;l9;pw6099w5999w0199;tw6099w5999w0199;ow6099w5999w0199;pw6099w5999w0199;tw6099w5999w0199",
        "j01;l0;pw0100;pw0100"};

    private final Checks checks = new Checks("WildTest");
    private JarCouncil x;
    private int state;
    private int left;

    public static void main(String[] args) throws IllegalAccessException {
        WildTest test = new WildTest();
        for (int state = 0; state < 6; state++) {
            test.state = state;
            for (Method call : JarCouncil.class.getDeclaredMethods()) {
                if (Modifier.isPublic(call.getModifiers())) {
                    test.left = 0;
                    test.allArguments(call, new int[call.getParameterCount()], 0);
                }
            }
        }
        test.dearestCalls();
        test.checks.finish();
    }

    /** No council; the least one; the largest one by each law, with a full log. */
    private void anew() {
        x = new JarCouncil();
        if (state > 0) {
            Checks.council(x, state == 1 ? TEXTS[1] : TEXTS[0]);
        }
        if (state > 1) {
            x.law(state - 2);
            x.swap(0, 4);
            Checks.row(x, 2, 0, 1, 2, -9, 1, 0);
            for (int d = 0; d < 6; d++) {
                x.day(2, 2, 0, d);
            }
        }
        x.sheet(0, 0, 100);
        x.sheet(1, 1, 0);
        left = CALLS - 130;
    }

    private void allArguments(Method call, int[] a, int place) throws IllegalAccessException {
        if (place == a.length) {
            one(call, a);
            return;
        }
        for (int v : a.length > 3 ? FAR : NEAR) {
            a[place] = v;
            allArguments(call, a, place + 1);
        }
    }

    private void one(Method call, int[] a) throws IllegalAccessException {
        if (left <= 0) {
            anew();
        }
        left--;
        String thrown = "";
        try {
            call.invoke(x, (Object[]) Arrays.stream(a).boxed().toArray(Integer[]::new));
        } catch (InvocationTargetException e) {
            thrown = e.getCause().toString();
        }
        checks.due("state " + state + ", " + call.getName() + Arrays.toString(a) + " " + thrown, thrown.length(), 0);
    }

    /** Each change of places makes all that was reckoned go, and all orders be tried again. */
    private void dearestCalls() {
        JarCouncil y = new JarCouncil();
        Checks.council(y, TEXTS[0]);
        y.law(3);
        int used = TEXTS[0].length() + 3 + 5;
        int changes = 0;
        while (used + 3 < CALLS) {
            y.swap(changes % 5, (changes + 1) % 5);
            y.motion(4, 2, -1);
            y.choice(5, 99);
            changes++;
            used += 3;
        }
        int[] order = {0, 1, 2, 3, 4};
        for (int c = 0; c < changes; c++) {
            int p = placeOf(order, c % 5);
            int r = placeOf(order, (c + 1) % 5);
            int who = order[p];
            order[p] = order[r];
            order[r] = who;
        }
        for (int k = 0; k < 5; k++) {
            checks.due("place of " + k + " behind all changes", y.ofSpeaker(k, 2), placeOf(order, k));
        }
    }

    private static int placeOf(int[] order, int k) {
        int place = 0;
        while (order[place] != k) {
            place++;
        }
        return place;
    }
}
