import java.lang.reflect.InvocationTargetException;
import java.lang.reflect.Method;
import java.util.Arrays;
import java.util.Comparator;
import java.util.Random;

/** Any arguments in any state: no call throws, and the same calls on a new object answer the same. */
public final class WildCalls {
    private static final int[] EDGES = {
        Integer.MIN_VALUE, Integer.MIN_VALUE + 1, -100, -2, -1, 0, 1, 2, 3, 4, 5, 6, 7, 8, 9, 10, 11, 12, 13, 14, 15, 16,
        19, 20, 24, 30, 31, 59, 60, 61, 99, 100, 120, 200, 400, 512, 999, 1000, 4095, 4096, Integer.MAX_VALUE - 1,
        Integer.MAX_VALUE};
    private static final String[] TEXTS = {
        "motive 0 0 up 3 down 4;motive 1 1 same;motive 2 2;motive 3 3 up 1 up 1 up 1 up 1 up 1 up 1 up 1;",
        "slip 300 + bar * 50 when note > 20 or not (nerve < 30 and hoarse = 1); shake room + sung; weight 9 - slips;",
        "again 3 (call 0 on 0 in 20 cross 0 again 2 (rest call 0 on 1 in 10)) call 0 on 3 in 5",
        "slip 9999 * 9999 * nerve / 7; weight 0 - 9999 * 9999; shake 9999 * sung;"};

    private WildCalls() {
    }

    public static void main(String[] args) throws IllegalAccessException {
        Method[] face = Arrays.stream(SungEvidence.class.getDeclaredMethods())
            .filter(m -> java.lang.reflect.Modifier.isPublic(m.getModifiers()))
            .sorted(Comparator.comparing(Method::getName)).toArray(Method[]::new);
        Check.due("methods of the face", face.length, 34);
        for (int seed = 0; seed < 600; seed++) {
            run(face, seed);
        }
        Check.close("WildCalls");
    }

    private static void run(Method[] face, int seed) throws IllegalAccessException {
        Random chance = new Random(seed);
        SungEvidence one = new SungEvidence();
        SungEvidence other = new SungEvidence();
        boolean furnished = seed % 3 > 0;
        if (furnished) {
            furnish(one);
            furnish(other);
        }
        for (int i = 0; i < 450; i++) {
            Method m = face[chance.nextInt(face.length)];
            boolean unfurnishes = m.getName().equals("text") || m.getName().equals("image");
            if (furnished && unfurnishes && chance.nextInt(4) > 0) {
                continue;
            }
            Object[] arguments = arguments(m, chance);
            String call = "run " + seed + ": " + m.getName() + Arrays.toString(arguments);
            Object got = answer(m, one, arguments, call);
            Object again = answer(m, other, arguments, call);
            Check.due(call + " again", got != null && got.equals(again), true);
        }
    }

    private static void furnish(SungEvidence x) {
        x.witness(5, 50, 2);
        x.witness(1, 60, 1);
        x.witness(20, 21, 9);
        x.witness(1, 30, 3);
        for (int fact = 0; fact < 4; fact++) {
            x.claim(0, fact, fact);
            x.claim(1, fact, fact);
            x.claim(3, fact, 3 - fact);
        }
        Check.tell(x, 0, TEXTS[0]);
        Check.tell(x, 1, TEXTS[x.look(5) == 0 ? 1 : 3]);
        Check.tell(x, 2, TEXTS[2]);
    }

    private static Object[] arguments(Method m, Random chance) {
        Object[] all = new Object[m.getParameterCount()];
        for (int i = 0; i < all.length; i++) {
            if (m.getParameterTypes()[i] == boolean.class) {
                all[i] = chance.nextBoolean();
            } else if (chance.nextInt(10) == 0) {
                all[i] = chance.nextInt();
            } else if (chance.nextInt(3) == 0) {
                all[i] = EDGES[chance.nextInt(EDGES.length)];
            } else {
                all[i] = chance.nextInt(5);
            }
        }
        return all;
    }

    private static Object answer(Method m, SungEvidence x, Object[] arguments, String call)
        throws IllegalAccessException {
        try {
            return m.invoke(x, arguments);
        } catch (InvocationTargetException e) {
            Check.due(call + " threw " + e.getCause(), 1, 0);
            return null;
        }
    }
}
