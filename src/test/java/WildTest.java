import java.lang.reflect.InvocationTargetException;
import java.lang.reflect.Method;
import java.util.ArrayList;
import java.util.Comparator;
import java.util.List;
import java.util.Random;

/** LANGUAGE.md, rule 7: no call throws, whatever its arguments and whatever came before, beyond 512 calls too. */
public final class WildTest {
    private static final int TOWNS = 60;
    private static final int CALLS = 2000;
    private static final int[] EDGES = {Integer.MIN_VALUE, Integer.MIN_VALUE + 1, -1003, -24, -2, -1, 0, 1, 2, 3, 7, 8, 9, 10,
        11, 12, 19, 20, 21, 23, 24, 30, 31, 32, 33, 63, 99, 100, 160, 199, 200, 201, 297, 298, 999, 1000, 1023, 4800, 9999,
        10000, (1 << 20) - 1, 1 << 20, 1 << 30, Integer.MAX_VALUE - 1, Integer.MAX_VALUE};
    private static final String[] PARTS = {"first", "hours", "rate", "meter", "strike", "always", "turn", "small", "far",
        "to", ",", ";", "0", "7", "23", "9999999999999999999", " "};

    private final Random random;
    private final WaterTown town = new WaterTown();

    private WildTest(int seed) {
        random = new Random(seed * 31337L + 3);
        if (seed % 3 != 0) build(seed % 3 == 1 ? 5 : 1000);
    }

    /** Wild calls alone seldom come to a street: most towns begin with some, or with all that there may be. */
    private void build(int most) {
        for (int k = 0; k < Math.min(most, 20); k++) {
            town.pipe(random.nextInt(5), 5 + random.nextInt(5), 1 + random.nextInt(999), random.nextInt(100));
            town.guess(k, 1 + random.nextInt(20));
        }
        for (int k = 0; k < Math.min(most, 10); k++) {
            town.street(random.nextInt(10), 1 + random.nextInt(99), 1 + random.nextInt(9), random.nextInt(100),
                    random.nextInt(1000), random.nextInt(4) / 3);
        }
    }

    public static void main(String[] args) throws IllegalAccessException {
        List<Method> face = new ArrayList<>();
        for (Method m : WaterTown.class.getDeclaredMethods()) {
            if (java.lang.reflect.Modifier.isPublic(m.getModifiers())) face.add(m);
        }
        // The machine tells them in no order of its own; the runs shall be the same each time.
        face.sort(Comparator.comparing(Method::getName));
        int thrown = 0;
        for (int seed = 0; seed < TOWNS; seed++) {
            thrown += new WildTest(seed).play(face);
        }
        System.out.println(TOWNS * CALLS + " wild calls, " + thrown + " towns threw");
        if (thrown != 0) System.exit(1);
    }

    private int play(List<Method> face) throws IllegalAccessException {
        for (int k = 0; k < CALLS; k++) {
            Method m = face.get(random.nextInt(face.size()));
            Object[] with = new Object[m.getParameterCount()];
            for (int p = 0; p < with.length; p++) {
                Class<?> type = m.getParameterTypes()[p];
                with[p] = type == int.class ? (Object) number() : type == long.class ? (Object) bytes() : (Object) random.nextBoolean();
            }
            try {
                m.invoke(town, with);
            } catch (InvocationTargetException e) {
                System.out.println(m.getName() + java.util.Arrays.toString(with) + " threw " + e.getCause());
                return 1;
            }
        }
        return 0;
    }

    /** Small ones often, so that calls come through. */
    private int number() {
        int die = random.nextInt(8);
        return die == 0 ? random.nextInt() : die < 4 ? EDGES[random.nextInt(EDGES.length)] : random.nextInt(12) - 1;
    }

    private long bytes() {
        long bytes = random.nextLong();
        if (random.nextInt(6) == 0) return bytes;
        String part = PARTS[random.nextInt(PARTS.length)];
        for (int k = 0; k < part.length(); k++) {
            bytes = bytes << 8 | part.charAt(k);
        }
        return bytes;
    }
}
