import java.lang.reflect.InvocationTargetException;
import java.lang.reflect.Method;
import java.lang.reflect.Modifier;
import java.util.Random;

/** Each call with any arguments, far out ones too, in many states: none may throw. */
public final class Extremes {
    private static final int[] FAR = {Integer.MIN_VALUE, Integer.MIN_VALUE + 1, -1000000, -201, -3, -2, -1, 0, 0, 0, 1, 1, 1, 2, 2,
        2, 3, 3, 4, 5, 8, 9, 10, 11, 39, 40, 41, 119, 120, 121, 199, 200, 201, 202, 255, 799, 800, 801, 1000000,
        Integer.MAX_VALUE - 1, Integer.MAX_VALUE};
    private static final String[] TEXTS = {"+a1b0;-a0b1;", "?a1;+b2;-a0;", "abba", "b", "", "aabbaabbaa", "+a1b2;-a3b0;?a2b3;+a1;",
        "ab", "ba", "bbab"};

    public static void main(String[] args) throws IllegalAccessException {
        int calls = 0;
        for (int seed = 0; seed < 200; seed++) {
            Random dice = new Random(seed);
            WordFolder x = new WordFolder();
            Method[] all = WordFolder.class.getDeclaredMethods();
            java.util.Arrays.sort(all, java.util.Comparator.comparing(Method::getName));
            for (int n = 0; n < 512; n++) {
                Method m = all[dice.nextInt(all.length)];
                if (!Modifier.isPublic(m.getModifiers()) || m.getName().equals("letters") && dice.nextInt(10) > 0) {
                    continue;
                }
                if (dice.nextInt(3) == 0) {
                    Check.put(x, TEXTS[dice.nextInt(TEXTS.length)]);
                    m = dice.nextBoolean() ? m : null;
                }
                call(x, m, dice, seed);
                calls++;
            }
        }
        System.out.println(calls + " calls, none threw");
    }

    private static void call(WordFolder x, Method m, Random dice, int seed) throws IllegalAccessException {
        if (m == null) {
            if (x.target() < 0) {
                Check.put(x, TEXTS[2 + dice.nextInt(4)]);
                x.example(dice.nextBoolean());
            }
            return;
        }
        Object[] given = new Object[m.getParameterCount()];
        for (int k = 0; k < given.length; k++) {
            given[k] = m.getParameterTypes()[k] == boolean.class ? (Object) dice.nextBoolean() : (Object) FAR[dice.nextInt(FAR.length)];
        }
        try {
            m.invoke(x, given);
        } catch (InvocationTargetException e) {
            System.out.println("seed " + seed + ": " + m.getName() + java.util.Arrays.toString(given) + " threw " + e.getCause());
            System.exit(1);
        }
    }
}
