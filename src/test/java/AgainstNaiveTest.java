import java.lang.reflect.InvocationTargetException;
import java.lang.reflect.Method;
import java.util.ArrayList;
import java.util.HashMap;
import java.util.List;
import java.util.Map;

/** Texts and programs made by chance (from fixed seeds), of which both houses have to tell the same. */
public final class AgainstNaiveTest {
    private static final int WORLDS = 1000;

    private final Map<String, Method> ours = methodsOf(DispatchHouse.class);
    private final Map<String, Method> theirs = methodsOf(NaiveHouse.class);
    private DispatchHouse house;
    private NaiveHouse naive;
    private List<String> log;
    private int asked;
    private final int[] ends = new int[6];
    private final int[] reasons = new int[8];
    private final int[] wholes = new int[4];
    private boolean isWrong;

    public static void main(String[] args) throws Exception {
        int from = args.length > 0 ? Integer.parseInt(args[0]) : 0;
        int till = args.length > 1 ? Integer.parseInt(args[1]) : WORLDS;
        AgainstNaiveTest test = new AgainstNaiveTest();
        for (int seed = from; seed < till && !test.isWrong; seed++) {
            test.world(seed);
        }
        System.out.println(test.asked + " answers held against each other; runs ended 0, 1, 4, 5: " + test.ends[0] + " "
            + test.ends[1] + " " + test.ends[4] + " " + test.ends[5] + "; reasons 0 to 7: "
            + java.util.Arrays.toString(test.reasons) + "; whole -1 to 2: " + java.util.Arrays.toString(test.wholes));
        if (test.isWrong) {
            System.exit(1);
        }
    }

    private static Map<String, Method> methodsOf(Class<?> house) {
        Map<String, Method> all = new HashMap<>();
        for (Method method : DispatchHouse.class.getDeclaredMethods()) {
            if (java.lang.reflect.Modifier.isPublic(method.getModifiers())) {
                try {
                    Method same = house.getDeclaredMethod(method.getName(), method.getParameterTypes());
                    same.setAccessible(true);
                    all.put(method.getName(), same);
                } catch (NoSuchMethodException e) {
                    throw new IllegalStateException(e);
                }
            }
        }
        return all;
    }

    private static Object answer(Method method, Object house, Object[] arguments) throws Exception {
        try {
            return method.invoke(house, arguments);
        } catch (InvocationTargetException e) {
            Throwable cause = e.getCause();
            if (!(cause instanceof RuntimeException)) {
                cause.printStackTrace();
            }
            return cause.getClass().getName();
        }
    }

    private Object ask(String name, Object... arguments) throws Exception {
        Object ourAnswer = answer(ours.get(name), house, arguments);
        Object theirAnswer = answer(theirs.get(name), naive, arguments);
        String line = name + java.util.Arrays.toString(arguments) + " = " + ourAnswer;
        log.add(line);
        asked++;
        if (!java.util.Objects.equals(ourAnswer, theirAnswer)) {
            isWrong = true;
            System.out.println("not as due is " + theirAnswer + ":");
            for (String one : log) {
                System.out.println("  " + one);
            }
            throw new IllegalStateException("a wrong answer");
        }
        return ourAnswer;
    }

    private void feed(String text) throws Exception {
        log.add("text: " + text);
        for (int i = 0; i < text.length(); i += 20) {
            int[] five = new int[5];
            for (int j = 0; j < 20; j++) {
                int b = i + j < text.length() ? text.charAt(i + j) : 0;
                five[j / 4] = five[j / 4] << 8 | b;
            }
            int length = house.feed(five[0], five[1], five[2], five[3], five[4]);
            if (length != naive.feed(five[0], five[1], five[2], five[3], five[4])) {
                throw new IllegalStateException("feed");
            }
        }
        ask("end", text.length());
    }

    private void world(int seed) throws Exception {
        house = new DispatchHouse();
        naive = new NaiveHouse();
        log = new ArrayList<>();
        log.add("seed " + seed);
        TextMaker maker = new TextMaker(seed);
        for (int round = 0; round < 3; round++) {
            String text = seed % 50 == 0 && round == 0 ? maker.large() : seed % 4 == 1 && round == 0 ? maker.askers()
                : maker.world(maker.below(5), 1 + maker.below(2), maker.below(3), maker.below(9));
            if (text.length() > 8000) {
                return;
            }
            for (int spoiled = 0; spoiled < 4; spoiled++) {
                tell(maker.spoil(text), maker);
            }
            tell(text, maker);
            lookAround(maker);
            for (int i = 0; i < 6; i++) {
                String program = maker.program();
                if (program.length() < 8000) {
                    program(maker.below(3) == 0 ? maker.spoil(program) : program, maker);
                }
            }
            if (maker.below(3) == 0) {
                ask("drop", maker.below(12));
                lookAround(maker);
                runAll(maker);
            }
            if (maker.below(8) == 0) {
                ask("clear");
                maker.forget();
                ask("run");
            }
        }
    }

    private void tell(String text, TextMaker maker) throws Exception {
        feed(text);
        ask("tell");
        for (int what = -1; what < 8; what++) {
            ask("count", what);
        }
        reasons[house.count(4)]++;
    }

    private void program(String text, TextMaker maker) throws Exception {
        feed(text);
        ask("program");
        ask("count", 4);
        reasons[house.count(4)]++;
        runAll(maker);
    }

    private void runAll(TextMaker maker) throws Exception {
        ask("set", 1, maker.below(3));
        ask("set", 2, maker.below(4) == 0 ? 1 + maker.below(60) : 3000);
        for (int choosing = 0; choosing < 4; choosing++) {
            ask("set", 0, choosing);
            Object how = ask("run");
            if (how instanceof Integer) {
                ends[(Integer) how]++;
            }
            for (int what = -1; what < 8; what++) {
                ask("told", what);
            }
        }
        for (int i = -1; i <= Math.min(20, house.told(4)); i++) {
            ask("shown", i);
        }
        ask("ran");
        ask("count", 5);
        for (int i = 0; i < 3; i++) {
            ask("word", maker.below(2 + house.count(5)) - 1);
        }
    }

    private void lookAround(TextMaker maker) throws Exception {
        int kinds = house.count(0);
        for (int a = 0; a < kinds; a++) {
            ask("below", a, maker.below(kinds + 1));
            for (int way = 0; way < 3; way++) {
                for (int i = 0; i <= kinds; i++) {
                    ask("row", a, way, i);
                }
            }
        }
        ask("row", maker.below(kinds + 2) - 1, maker.below(5) - 1, maker.below(4) - 1);
        for (int c = -1; c <= house.count(1); c++) {
            for (int what = -1; what < 10; what++) {
                Object answer = ask("call", c, what);
                if (what == 5 && answer instanceof Integer) {
                    wholes[(Integer) answer + 1]++;
                }
            }
        }
        int methods = house.count(2);
        for (int i = 0; i < 60 && methods > 0; i++) {
            ask("nearer", maker.below(methods + 1), maker.below(methods) + 1, maker.below(kinds), maker.below(kinds + 1),
                maker.below(kinds));
        }
    }
}
