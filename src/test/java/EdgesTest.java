import java.lang.reflect.Method;
import java.util.ArrayList;
import java.util.List;

/** All promises: each call with every combination of numbers at the edges, in several states, compared with the oracle. */
public final class EdgesTest {
    private static final int[] MANY = {Integer.MIN_VALUE, -1001, -2, -1, 0, 1, 2, 3, 4, 5, 6, 7, 8, 9, 10, 11, 12, 16, 17,
        20, 21, 40, 41, 49, 50, 51, 60, 61, 80, 81, 96, 99, 100, 199, 200, 201, 255, 256, 399, 400, 401, 999, 1000,
        Integer.MAX_VALUE};
    private static final int[] SOME = {Integer.MIN_VALUE, -2, -1, 0, 1, 2, 3, 6, 7, 9, 10, 20, 21, 40, 41, 80, 81, 99, 100,
        200, 201, 400, 401, Integer.MAX_VALUE};
    private static final int[] FEW = {Integer.MIN_VALUE, -1, 0, 1, 2, 8, 9, 20, 21, 400, 401, Integer.MAX_VALUE};
    private static final String[] TOWNS = {
        "",
        "co100050400;",
        "co100100500;cb060020983;r25;l7;y06;",
        "co100100500;cm100090600;cb090030404;ci050000990;cs100040502;ch120120205;co400001010;e7;y09;",
    };

    // An object is promised for 512 calls: behind so many another one goes on.
    private static final int CALLS = 300;

    private static int wrong = 0;
    private static int compared = 0;

    public static void main(String[] args) throws Exception {
        for (Method method : TheAngelsWantMore.class.getDeclaredMethods()) {
            if (java.lang.reflect.Modifier.isPublic(method.getModifiers())) {
                for (String town : TOWNS) {
                    try {
                        allOf(method, town);
                    } catch (java.lang.reflect.InvocationTargetException e) {
                        wrong++;
                        System.out.println(method.getName() + " threw " + e.getCause() + " in \"" + town + "\"");
                    }
                }
            }
        }
        System.out.println(compared + " answers compared, " + wrong + " not as due");
        if (wrong != 0 || compared == 0) {
            System.exit(1);
        }
    }

    private static void allOf(Method method, String town) throws Exception {
        Class<?>[] types = method.getParameterTypes();
        Method due = Oracle.class.getDeclaredMethod(method.getName(), types);
        int[] numbers = types.length < 3 ? MANY : types.length == 3 ? SOME : FEW;
        int all = 1;
        for (int i = 0; i < types.length; i++) {
            all *= numbers.length;
        }
        TheAngelsWantMore x = new TheAngelsWantMore();
        Oracle o = new Oracle();
        for (int k = 0; k < all && wrong < 20; k++) {
            if (k % CALLS == 0) {
                sameCounts(method, town, x, o);
                x = new TheAngelsWantMore();
                o = new Oracle();
                tell(method, town, x, o);
            }
            List<Object> with = new ArrayList<>();
            for (int i = 0, rest = k; i < types.length; i++, rest /= numbers.length) {
                with.add(numbers[rest % numbers.length]);
            }
            Number got = (Number) method.invoke(x, with.toArray());
            Number want = (Number) due.invoke(o, with.toArray());
            same(method, town, with, got.longValue(), want.longValue());
        }
        sameCounts(method, town, x, o);
    }

    private static void tell(Method method, String town, TheAngelsWantMore x, Oracle o) {
        for (char c : town.toCharArray()) {
            x.letter(c);
            o.letter(c);
        }
        same(method, town, List.of(), x.town(), o.town());
        for (int v : new int[] {50, 45, 40}) {
            same(method, town, List.of(), x.row(v), o.row(v));
        }
    }

    private static void sameCounts(Method method, String town, TheAngelsWantMore x, Oracle o) {
        for (int what = 0; what <= 16; what++) {
            same(method, town + " then count", List.of(what), x.count(what), o.count(what));
        }
    }

    private static void same(Method method, String town, List<?> with, long got, long want) {
        compared++;
        if (got != want) {
            wrong++;
            System.out.println(method.getName() + with + " in \"" + town + "\" answered " + got + ", due is " + want);
        }
    }
}
