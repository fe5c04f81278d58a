import java.lang.reflect.InvocationTargetException;
import java.lang.reflect.Method;
import java.lang.reflect.Modifier;
import java.util.ArrayList;
import java.util.Comparator;
import java.util.List;
import java.util.Random;

/** No call throws: every method with numbers at and beyond every limit of the document, on blocks of several states. */
public final class ExtremesTest {
    private static final int[] NUMBERS = {Integer.MIN_VALUE, Integer.MIN_VALUE + 1, -10000, -241, -240, -49, -48, -9, -8, -2, -1,
        0, 1, 2, 3, 4, 6, 7, 8, 9, 10, 19, 20, 39, 40, 41, 47, 48, 59, 60, 61, 191, 192, 239, 240, 241, 299, 300, 301, 500,
        501, 999, 1000, 9999, 10000, 99999, 100000, Integer.MAX_VALUE - 1, Integer.MAX_VALUE};
    /** Enough to try all pairs of numbers. */
    private static final int MOST_TRIES = NUMBERS.length * NUMBERS.length;
    private static int calls;
    private static int wrong;

    public static void main(String[] args) {
        List<Method> face = face();
        for (Method m : face) {
            tryAll(m, new SixAcres());
            tryAll(m, Edges.town());
            tryAll(m, crowded());
        }
        for (int seed = 0; seed < 20; seed++) {
            mixed(face, seed);
        }
        System.out.println("extremes: " + calls + " calls, " + wrong + " of which threw");
        System.exit(wrong == 0 ? 0 : 1);
    }

    private static List<Method> face() {
        List<Method> face = new ArrayList<>();
        for (Method m : SixAcres.class.getDeclaredMethods()) {
            if (Modifier.isPublic(m.getModifiers())) {
                face.add(m);
            }
        }
        face.sort(Comparator.comparing(Method::getName));
        return face;
    }

    /** All that has a limit is full. */
    private static SixAcres crowded() {
        SixAcres s = new SixAcres();
        for (int i = 0; i < 300; i++) {
            s.note(i % 240, 1 + i % 6, i % 40, 9, 0);
        }
        for (int c = 0; c < 239; c++) {
            s.door(c, c + 1, 1 + c % 2);
            s.door(c, c + 8, 1 + c % 2);
        }
        for (int i = 0; i < 8; i++) {
            Edges.tell(s, "may home;may roof if not {sky=0};pay home 99999*99999/people;draw home 99999;water home 99999;");
            s.wish(239 - i, 1);
        }
        for (int i = 0; i < 60; i++) {
            s.wire(239 - i, i - 1, 999);
            s.turn(5, i);
        }
        for (int i = 0; i < 25; i++) {
            s.feed(i, -i, i, -i, i);
        }
        return s;
    }

    private static void tryAll(Method m, SixAcres s) {
        int n = m.getParameterCount();
        Random random = new Random(n);
        int tries = n == 0 ? 1 : n == 1 ? NUMBERS.length : MOST_TRIES;
        for (int i = 0; i < tries; i++) {
            Object[] numbers = new Object[n];
            for (int p = 0; p < n; p++) {
                int which = p == 0 ? i % NUMBERS.length : p == 1 ? i / NUMBERS.length : random.nextInt(NUMBERS.length);
                numbers[p] = NUMBERS[which];
            }
            call(m, s, numbers);
        }
    }

    private static void mixed(List<Method> face, int seed) {
        Random random = new Random(seed);
        SixAcres s = seed % 2 == 0 ? Edges.town() : crowded();
        for (int i = 0; i < 2000; i++) {
            Method m = face.get(random.nextInt(face.size()));
            Object[] numbers = new Object[m.getParameterCount()];
            for (int p = 0; p < numbers.length; p++) {
                numbers[p] = random.nextBoolean() ? NUMBERS[random.nextInt(NUMBERS.length)] : random.nextInt(10);
            }
            call(m, s, numbers);
        }
    }

    private static void call(Method m, SixAcres s, Object[] numbers) {
        calls++;
        try {
            m.invoke(s, numbers);
        } catch (InvocationTargetException | IllegalAccessException e) {
            wrong++;
            System.out.println(m.getName() + List.of(numbers) + " threw " + e.getCause());
        }
    }
}
