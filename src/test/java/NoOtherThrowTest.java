import java.lang.reflect.InvocationTargetException;
import java.lang.reflect.Method;
import java.lang.reflect.Modifier;
import java.util.ArrayList;
import java.util.Arrays;
import java.util.Comparator;
import java.util.List;
import java.util.Random;

/** Calls with any arguments in any state: nothing is thrown but what the face says, and every call ends. */
public final class NoOtherThrowTest {
    private static final int HOUSES = 300;
    private static final int CALLS = 700;
    private static final int[] ENDS = {Integer.MIN_VALUE, Integer.MAX_VALUE, -1, 0, 1, 2, 3, 1 << 16};

    private final Random chance = new Random(7);
    private final List<Method> face = new ArrayList<>();
    private DispatchHouse house;
    private int wrong;

    public static void main(String[] args) throws Exception {
        NoOtherThrowTest test = new NoOtherThrowTest();
        test.checkFace();
        for (int i = 0; i < HOUSES; i++) {
            test.live(i);
        }
        System.out.println(HOUSES + " houses of " + CALLS + " calls, " + test.wrong + " not as due");
        if (test.wrong != 0) {
            System.exit(1);
        }
    }

    private void checkFace() {
        for (Method method : DispatchHouse.class.getDeclaredMethods()) {
            if (Modifier.isPublic(method.getModifiers())) {
                face.add(method);
            } else if (!Modifier.isPrivate(method.getModifiers())) {
                wrong++;
                System.out.println(method + " is neither public nor private");
            }
        }
        face.sort(Comparator.comparing(Method::getName));
        if (face.size() != 17) {
            wrong++;
            System.out.println("the face has " + face.size() + " methods");
        }
    }

    private void live(int seed) throws Exception {
        house = new DispatchHouse();
        TextMaker maker = new TextMaker(seed);
        for (int i = 0; i < CALLS; i++) {
            int what = chance.nextInt(20);
            if (what < 2) {
                text(maker.world(maker.below(3), maker.below(2), maker.below(2), maker.below(6)), maker);
                house.tell();
            } else if (what < 5) {
                text(maker.program(), maker);
                house.program();
            } else {
                any();
            }
        }
    }

    private void text(String text, TextMaker maker) {
        String right = chance.nextInt(3) == 0 ? maker.spoil(text) : text;
        for (int i = 0; i < right.length() && house.count(6) <= 8172; i += 20) {
            int[] five = new int[5];
            for (int j = 0; j < 20; j++) {
                five[j / 4] = five[j / 4] << 8 | (i + j < right.length() ? right.charAt(i + j) : ' ');
            }
            house.feed(five[0], five[1], five[2], five[3], five[4]);
        }
    }

    private void any() throws Exception {
        Method method = face.get(chance.nextInt(face.size()));
        Object[] arguments = new Object[method.getParameterCount()];
        for (int i = 0; i < arguments.length; i++) {
            arguments[i] = chance.nextInt(4) == 0 ? ENDS[chance.nextInt(ENDS.length)] : chance.nextInt(12) - 1;
        }
        try {
            method.invoke(house, arguments);
        } catch (InvocationTargetException e) {
            if (!Arrays.asList(method.getExceptionTypes()).contains(e.getCause().getClass())) {
                wrong++;
                System.out.println(method.getName() + Arrays.toString(arguments) + " threw " + e.getCause());
                e.getCause().printStackTrace(System.out);
            }
        }
    }
}
