import java.lang.reflect.InvocationTargetException;
import java.lang.reflect.Method;
import java.lang.reflect.Modifier;
import java.util.ArrayList;
import java.util.Comparator;
import java.util.List;
import java.util.Random;

/** No call ever throws, for any arguments in any state, behind the 512th call too. */
public final class AnyCallTest {
    private static final int OBJECTS = 40;
    private static final int CALLS = 5000;

    private static final int[] ODD_NUMBERS = {Integer.MIN_VALUE, Integer.MIN_VALUE + 1, -1000000004, -1000000001, -65536, -33, -2, -1, 5, 6,
        7, 8, 9, 19, 20, 21, 31, 32, 33, 40, 41, 60, 61, 99, 100, 400, 401, 65536, 1 << 30, Integer.MAX_VALUE - 1, Integer.MAX_VALUE};

    private static final String[] PIECES = {"sorts", "house", "worth", ";", " ", "0", "1", "2", "5", "6", "99", "100", "0000", "x", "sorts 6;",
        "sorts 1;", "house 1 0 0 0 0;", "house 99 0;", "house 50;", "worth 0 0 9;", "worth 1 0 99;", "worth 2 0 1;", "\u0000", "\u00ff"};

    private static int wrong = 0;

    private static List<Method> face() {
        List<Method> face = new ArrayList<>();
        for (Method m : CastOffs.class.getDeclaredMethods()) {
            if (Modifier.isPublic(m.getModifiers())) {
                face.add(m);
            }
        }
        face.sort(Comparator.comparing(Method::getName));
        return face;
    }

    private static Object draw(Random r, Class<?> type) {
        if (type == boolean.class) {
            return r.nextBoolean();
        }
        if (type == long.class) {
            return r.nextLong();
        }
        return r.nextInt(3) == 0 ? ODD_NUMBERS[r.nextInt(ODD_NUMBERS.length)] : r.nextInt(5) - 1;
    }

    private static void call(CastOffs x, Method m, Object... values) {
        try {
            m.invoke(x, values);
        } catch (InvocationTargetException | IllegalAccessException e) {
            wrong++;
            System.out.println(m.getName() + List.of(values) + " threw " + e.getCause());
        }
    }

    private static void drawnCall(Random r, CastOffs x, Method m) {
        Class<?>[] types = m.getParameterTypes();
        Object[] values = new Object[types.length];
        for (int i = 0; i < types.length; i++) {
            values[i] = draw(r, types[i]);
        }
        call(x, m, values);
    }

    /** Mostly sound, so that the calls behind it have houses to do with. */
    private static void tell(Random r, CastOffs x) {
        StringBuilder text = new StringBuilder(r.nextInt(4) == 0 ? "" : "sorts 3;house 9 0 1 2 2;house 60 1 1;house 40;worth 0 2 5;worth 1 0 7;worth 2 1 9;");
        for (int i = r.nextInt(3); i > 0; i--) {
            text.append(PIECES[r.nextInt(PIECES.length)]);
        }
        x.spit();
        for (int i = 0; i < text.length(); i++) {
            x.feed(1, text.charAt(i));
        }
        x.spit();
    }

    public static void main(String[] args) {
        List<Method> face = face();
        for (int i = 0; i < OBJECTS && wrong < 5; i++) {
            Random r = new Random(i);
            CastOffs x = new CastOffs();
            for (int c = 0; c < CALLS && wrong < 5; c++) {
                if (i > 0 && c % 250 == 0) {
                    tell(r, x);
                }
                drawnCall(r, x, face.get(r.nextInt(face.size())));
            }
        }
        System.out.println(wrong == 0 ? "no call throws" : wrong + " calls threw");
        if (wrong != 0) {
            System.exit(1);
        }
    }
}
