import java.lang.reflect.InvocationTargetException;
import java.lang.reflect.Method;
import java.lang.reflect.Modifier;
import java.util.Arrays;
import java.util.Comparator;
import java.util.Random;

/** No call throws, and all end, for any arguments in any state (rule 7 of LANGUAGE.md). */
public final class WildTest {
    private static final int MOST_CALLS = 512;
    private static final int[] NUMBERS = {Integer.MIN_VALUE, Integer.MIN_VALUE + 1, -1000000, -65, -64, -49, -2, -1, 0, 1, 2, 3, 4, 5, 7, 8, 9, 15, 16, 17, 23, 24,
        25, 29, 30, 31, 32, 33, 40, 41, 47, 48, 49, 50, 62, 63, 64, 65, 99, 100, 999, 1000, 1001, 1580, 1599, 1600, 1601, 100000, 1 << 30,
        Integer.MAX_VALUE - 48, Integer.MAX_VALUE - 19, Integer.MAX_VALUE - 1, Integer.MAX_VALUE};
    private static final String[] PIECES = {"(", "not ", "1", "1+", "hour*", ")", "or ", "and ", "shade ", ";", "wall ", "1 1 ", "door ", "a ", "at ", "high ",
        "size 8 by 8;", "wall 0 0;", "cloud 1;", "9999", "\n", "?", "<", "/0", "%0", "-", "person ", "lamp ", "lit 0 to 24;", "abcdefghijk"};
    private static final String FULL = "size 8 by 8;wall 3 0 3 1 3 2 3 3 3 4 3 5 3 6 3 7;door a at 2 0 high 1;door b at 2 1 high 2;door c at 2 2 high 3;"
            + "door d at 2 3 high 4;door e at 2 4 high 5;door f at 2 5 high 6;door g at 2 6 high 7;door h at 7 7 high 9;lamp k at 0 0 lit 0 to 9;"
            + "lamp l at 0 1 lit 0 to 9;lamp m at 0 2 lit 0 to 9;lamp n at 7 0 lit 0 to 9;person p at 0 0;person q at 7 7;person r at 0 0;person s at 4 4;"
            + "shade (date*hour+height*7)%9-4+9999*9999*9999/(hour-5)%(height-2);cloud 37;";
    private static final String[] TOWNS = {"", "size 1 by 1;", "size 1 by 1;wall 0 0;", "size 8 by 1;door a at 7 0 high 9;lamp l at 0 0 lit 0 to 24;shade 2048*1024*1024;",
        "size 1 by 8;door a at 0 7 high 9;lamp l at 0 0 lit 0 to 24;person p at 0 0;shade 2048*1024*1024-1;", FULL};

    private final Random random = new Random(20261118L);
    private final Method[] face = Arrays.stream(ShadowDoors.class.getDeclaredMethods()).filter(m -> Modifier.isPublic(m.getModifiers()))
            .sorted(Comparator.comparing(Method::getName)).toArray(Method[]::new);
    private ShadowDoors object;
    private int left;
    private int calls;
    private int thrown;

    private void call(Method method, Object[] args) throws IllegalAccessException {
        calls++;
        left--;
        try {
            method.invoke(object, args);
        } catch (InvocationTargetException e) {
            thrown++;
            System.out.println(method.getName() + Arrays.toString(args) + " threw " + e.getCause());
        }
    }

    private Object wild(Class<?> type) {
        if (type == boolean.class) {
            return random.nextBoolean();
        }
        return random.nextInt(20) == 0 ? random.nextInt() : NUMBERS[random.nextInt(NUMBERS.length)];
    }

    private void begin(String text) {
        object = new ShadowDoors();
        left = MOST_CALLS;
        tell(text);
    }

    private void tell(String text) {
        int[] n = Texts.numbersOf(text);
        for (int i = 0; i + 4 < n.length; i += 5) {
            object.feed(n[i], n[i + 1], n[i + 2], n[i + 3], n[i + 4]);
        }
        object.end(text.length());
        object.quarter();
        left -= n.length / 5 + 2;
    }

    private void stir() {
        for (int i = random.nextInt(60); i > 0; i--, left--) {
            object.hour();
        }
    }

    private void callAll(String town) throws IllegalAccessException {
        for (Method method : face) {
            if (method.getName().equals("quarter")) {
                continue;
            }
            for (int i = 0; i < 250; i++) {
                if (object == null || left <= 0) {
                    begin(town);
                    stir();
                }
                call(method, Arrays.stream(method.getParameterTypes()).map(this::wild).toArray());
            }
        }
    }

    /** Texts as long as can be, the same piece again and again, or pieces and bytes by chance. */
    private void readWildTexts() throws NoSuchMethodException, IllegalAccessException {
        Method quarter = ShadowDoors.class.getMethod("quarter");
        object = new ShadowDoors();
        for (String piece : PIECES) {
            feedAlone("shade " + piece.repeat(1594 / piece.length()));
            call(quarter, new Object[0]);
            feedAlone(piece.repeat(1600 / piece.length()));
            call(quarter, new Object[0]);
        }
        for (int i = 0; i < 3000; i++) {
            StringBuilder text = new StringBuilder(i % 3 == 0 ? "" : "shade ");
            while (text.length() < 1500) {
                text.append(i % 2 == 0 ? PIECES[random.nextInt(12)] : i % 5 == 0 ? "" + (char) random.nextInt(256) : PIECES[random.nextInt(PIECES.length)]);
            }
            feedAlone(text.toString());
            call(quarter, new Object[0]);
        }
    }

    private void feedAlone(String text) {
        int[] n = Texts.numbersOf(text);
        for (int i = 0; i + 4 < n.length; i += 5) {
            object.feed(n[i], n[i + 1], n[i + 2], n[i + 3], n[i + 4]);
        }
        object.end(text.length());
    }

    public static void main(String[] args) throws Exception {
        WildTest test = new WildTest();
        for (String town : TOWNS) {
            test.object = null;
            test.callAll(town);
        }
        test.readWildTexts();
        System.out.println(test.calls + " wild calls, " + test.thrown + " threw");
        if (test.thrown > 0 || test.face.length != 41) {
            System.exit(1);
        }
    }
}
