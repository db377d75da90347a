import java.lang.reflect.Constructor;
import java.lang.reflect.Field;
import java.lang.reflect.Method;
import java.lang.reflect.Modifier;
import java.util.ArrayList;
import java.util.Arrays;
import java.util.List;

/** The public face, Term 6 and promises 1 to 9, a test for each sentence that names an edge. */
public final class EdgesOfFaceTest {
    private static final Check CHECK = new Check();
    private static final int BLANKS = 0x20202020;

    public static void main(String[] args) {
        face();
        fiveHundredCalls();
        housesAlone();
        newHouse();
        feedOrder();
        feedThrows();
        endKeeps();
        endThrows();
        tellEmptiesTheTape();
        tellAnswers();
        programInPlace();
        programWrongIsNone();
        clearing();
        clearedNames();
        dropping();
        droppedForGood();
        dropThrows();
        setAnswersWhatItWas();
        setThrows();
        counting();
        reasonOfTheLatest();
        countThrows();
        wrongChangesNothing();
        rightComesToIt();
        thrownChangesNothing();
        CHECK.done();
    }

    private static void face() {
        CHECK.sentence("The public face");
        int modifiers = DispatchHouse.class.getModifiers();
        CHECK.due("public and final", Modifier.isPublic(modifiers) && Modifier.isFinal(modifiers), true);
        String[] want = {"int feed(int,int,int,int,int) throws IndexOutOfBoundsException", "int end(int) throws IllegalArgumentException",
            "int tell()", "int program()", "void clear()", "boolean drop(int) throws IndexOutOfBoundsException",
            "int set(int,int) throws IllegalArgumentException", "int count(int) throws IllegalArgumentException",
            "boolean below(int,int) throws IndexOutOfBoundsException",
            "int row(int,int,int) throws IndexOutOfBoundsException,IllegalArgumentException",
            "int nearer(int,int,int,int,int) throws IndexOutOfBoundsException,IllegalArgumentException",
            "int call(int,int) throws IndexOutOfBoundsException,IllegalArgumentException", "int run() throws IllegalStateException",
            "int told(int) throws IllegalArgumentException", "int shown(int) throws IndexOutOfBoundsException",
            "int ran() throws IllegalStateException", "long word(int) throws IndexOutOfBoundsException"};
        List<String> got = new ArrayList<>();
        for (Method method : DispatchHouse.class.getDeclaredMethods()) {
            if (!Modifier.isPrivate(method.getModifiers()) && !method.isSynthetic()) {
                got.add(method.toString().replace("java.lang.", "").replace("DispatchHouse.", "").replace("public ", ""));
            }
        }
        List<String> due = new ArrayList<>(Arrays.asList(want));
        due.sort(null);
        got.sort(null);
        CHECK.due("the methods of the face are " + got, got.equals(due), true);
        Constructor<?>[] all = DispatchHouse.class.getDeclaredConstructors();
        CHECK.due("one constructor", all.length, 1);
        CHECK.due("a public one", Modifier.isPublic(all[0].getModifiers()) && all[0].getParameterCount() == 0, true);
        for (Field field : DispatchHouse.class.getDeclaredFields()) {
            CHECK.due(field + " is private", Modifier.isPrivate(field.getModifiers()), true);
            CHECK.due(field + " is final if static", !Modifier.isStatic(field.getModifiers()) || Modifier.isFinal(field.getModifiers()), true);
        }
    }

    private static void fiveHundredCalls() {
        DispatchHouse house = CHECK.sentence("An object is used for at most 512 calls after it has been made");
        // 8180 bytes by 409 calls, and 103 more: the 512th answers as any other
        String text = "kind A; call f(2) best near; method f(x, y) = x - y; method f(x: A, y: Int) if x < y = (show y) + next(y, x);";
        byte[] bytes = (text + Check.times(8180 - text.length(), " ")).getBytes();
        for (int i = 0; i < 409; i++) {
            int[] five = new int[5];
            for (int j = 0; j < 20; j++) {
                five[j / 4] = five[j / 4] << 8 | bytes[20 * i + j];
            }
            house.feed(five[0], five[1], five[2], five[3], five[4]);
        }
        CHECK.due("call 410", house.tell(), -1);
        // f(A(1), 5)
        house.feed(0x66284128, 0x31292C20, 0x35292020, BLANKS, BLANKS);
        CHECK.due("call 412", house.program(), -1);
        for (int i = 413; i <= 506; i++) {
            house.set(0, i % 4);
            i++;
            CHECK.due("call " + i, house.run(), 0);
        }
        CHECK.due("call 507", house.told(2), 9);
        CHECK.due("call 508", house.ran(), 4);
        CHECK.due("call 509", house.word(0), 0x0002000100000000L);
        CHECK.due("call 510", house.shown(0), 5);
        CHECK.due("call 511", house.nearer(2, 1, 3, 1, 0), -1);
        CHECK.due("call 512", house.call(0, 5), 0);
    }

    private static void housesAlone() {
        CHECK.sentence("An object (each has a WORLD of its own)");
        CHECK.tell("kind A; call f(1) best left; method f(x) = 1;");
        DispatchHouse one = CHECK.house();
        DispatchHouse other = CHECK.anew();
        CHECK.due("kinds of another", other.count(0), 3);
        CHECK.tell("kind B; kind C;");
        CHECK.due("kinds of the first", one.count(0), 4);
        CHECK.due("kinds of the second", other.count(0), 5);
        CHECK.due("methods of the first", one.call(0, 0), 1);
    }

    private static void newHouse() {
        DispatchHouse house = CHECK.sentence("Promise 1: A WORLD of Any, Int, Fault; no PROGRAM; CHOOSING 0, WAY 0, FUEL 10000");
        int[] counts = {3, 0, 0, 0, 0, 0, 0};
        for (int what = 0; what < counts.length; what++) {
            CHECK.due("count " + what, house.count(what), counts[what]);
        }
        CHECK.throwing("no PROGRAM", IllegalStateException.class, house::run);
        CHECK.due("CHOOSING", house.set(0, 0), 0);
        CHECK.due("WAY", house.set(1, 0), 0);
        CHECK.due("FUEL", house.set(2, 10000), 10000);
        CHECK.tellWrong(2, "kind ^Any;");
        CHECK.tellWrong(2, "kind ^Int;");
        CHECK.tellWrong(2, "kind ^Fault;");
        CHECK.anew();
        CHECK.tell("call f(1) best left; method f(x) = f(x) + 1; method f(x: Int) = 1 + (try f(x) on y do 1) + (try f(x) on y do 1);");
        CHECK.program("f(1)");
        CHECK.due("run without set", CHECK.house().run(), 4);
        CHECK.due("FUEL without set", CHECK.house().told(3), 10000);
    }

    private static void feedOrder() {
        DispatchHouse house = CHECK.sentence("Promise 2: 20 bytes, five times four, the highest of each first, come to the TAPE: how many it has");
        CHECK.due("feed", house.feed(0x6B696E64, 0x20414243, 0x4445463B, 0x6B696E64, 0x205F313B), 20);
        CHECK.due("tell", house.tell(), -1);
        CHECK.due("kinds", house.count(0), 5);
        CHECK.tellWrong(2, "kind ^ABCDEF;");
        CHECK.tellWrong(2, "kind ^_1;");
        for (int at = 0; at < 20; at++) {
            CHECK.anew();
            // one byte that begins no sign among blanks, at each of the 20 places; and the byte 255, that of -1
            int[] five = {BLANKS, BLANKS, BLANKS, BLANKS, BLANKS};
            five[at / 4] = five[at / 4] & ~(255 << 24 - at % 4 * 8) | (at % 2 == 0 ? 255 : 0x2E) << 24 - at % 4 * 8;
            CHECK.due("feed", CHECK.house().feed(BLANKS, BLANKS, BLANKS, BLANKS, BLANKS), 20);
            CHECK.due("feed", CHECK.house().feed(five[0], five[1], five[2], five[3], five[4]), 40);
            CHECK.due("tell of a wrong byte", CHECK.house().tell(), 20 + at);
        }
        CHECK.anew();
        CHECK.due("feed of -1", CHECK.house().feed(-1, -1, -1, -1, -1), 20);
        CHECK.due("feed of the least", CHECK.house().feed(Integer.MIN_VALUE, 0, 0, 0, 0), 40);
        CHECK.due("tell", CHECK.house().tell(), 0);
    }

    private static void feedThrows() {
        DispatchHouse house = CHECK.sentence("Promise 2: IndexOutOfBoundsException: it would have more than 8192");
        for (int i = 1; i <= 409; i++) {
            CHECK.due("feed " + i, house.feed(BLANKS, BLANKS, BLANKS, BLANKS, BLANKS), 20 * i);
        }
        CHECK.throwing("feed to 8200", IndexOutOfBoundsException.class, () -> house.feed(0, 0, 0, 0, 0));
        CHECK.due("bytes", house.count(6), 8180);
        house.end(8173);
        CHECK.throwing("feed to 8193", IndexOutOfBoundsException.class, () -> house.feed(0, 0, 0, 0, 0));
        CHECK.due("bytes", house.count(6), 8173);
        house.end(8172);
        CHECK.due("feed to 8192", house.feed(BLANKS, BLANKS, BLANKS, 0x206B696E, 0x6420413B), 8192);
        CHECK.refused("feed of a full tape", IndexOutOfBoundsException.class, () -> house.feed(0, 0, 0, 0, 0));
        CHECK.due("tell of what was not changed", house.tell(), -1);
        CHECK.due("feed anew", house.feed(0, 0, 0, 0, 0), 20);
    }

    private static void endKeeps() {
        DispatchHouse house = CHECK.sentence("Promise 3: The TAPE keeps its first n bytes: n");
        CHECK.due("end of nothing", house.end(0), 0);
        house.feed(0x6B696E64, 0x20413B20, 0x20202020, 0x20202020, 0x2020202E);
        CHECK.due("end at its length", house.end(20), 20);
        CHECK.due("bytes", house.count(6), 20);
        CHECK.due("end", house.end(19), 19);
        CHECK.due("bytes", house.count(6), 19);
        CHECK.due("tell", house.tell(), -1);
        house.feed(0x6B696E64, 0x20423B20, 0, 0, 0);
        CHECK.due("end", house.end(7), 7);
        CHECK.due("feed behind it", house.feed(0x6B696E64, 0x20433B2E, 0, 0, 0), 27);
        CHECK.due("end", house.end(14), 14);
        CHECK.due("tell", house.tell(), -1);
        CHECK.due("kinds", house.count(0), 6);
        house.feed(0, 0, 0, 0, 0);
        CHECK.due("end of all", house.end(0), 0);
        CHECK.due("bytes", house.count(6), 0);
        // what was cut off is not read, be it the rest of a sign or of a remark
        Object[][] all = {{"kind A <=B;", 8, 8}, {"kind A bare;", 6, 6}, {"kind ABC;kind ABC;", 9, -1}, {"kind D;$ x\nkind;", 8, -1},
            {"kind E;kind", 7, -1}, {"call f(12) best left;", 8, 8}, {"kind AB;", 6, 6}, {"kind F;.", 7, -1}};
        for (Object[] one : all) {
            CHECK.anew();
            CHECK.feed((String) one[0]);
            CHECK.house().end((Integer) one[1]);
            CHECK.due("tell of " + one[0] + " cut at " + one[1], CHECK.house().tell(), (Integer) one[2]);
        }
        Object[][] programs = {{"1 + 23", 5, 3}, {"2 == 2 - 1", 6, 1}, {"let x = 1 then x + 5", 16, 1}, {"7$\n + 1", 2, 7}};
        for (Object[] one : programs) {
            CHECK.anew();
            CHECK.feed((String) one[0]);
            CHECK.house().end((Integer) one[1]);
            CHECK.due("program of " + one[0] + " cut at " + one[1], CHECK.house().program(), -1);
            CHECK.house().run();
            CHECK.due("its value", CHECK.house().told(2), (Integer) one[2]);
        }
    }

    private static void endThrows() {
        DispatchHouse house = CHECK.sentence("Promise 3: IllegalArgumentException: n is not 0 to its length");
        CHECK.refused("end of an empty tape", IllegalArgumentException.class, () -> house.end(1));
        CHECK.refused("end of an empty tape", IllegalArgumentException.class, () -> house.end(-1));
        house.feed(0, 0, 0, 0, 0);
        for (int n : new int[] {21, 22, -1, -20, Integer.MIN_VALUE, Integer.MAX_VALUE}) {
            CHECK.refused("end " + n, IllegalArgumentException.class, () -> house.end(n));
        }
        house.end(5);
        CHECK.refused("end behind what was cut", IllegalArgumentException.class, () -> house.end(6));
        CHECK.due("end 5", house.end(5), 5);
    }

    private static void tellEmptiesTheTape() {
        DispatchHouse house = CHECK.sentence("Promise 4: The TAPE, empty then, is a TEXT");
        CHECK.tell("kind A;");
        CHECK.due("bytes behind a right text", house.count(6), 0);
        CHECK.tellWrong(2, "kind ^A;");
        CHECK.due("bytes behind a wrong text", house.count(6), 0);
        CHECK.tellWrong(1, "kind^");
        CHECK.due("bytes behind a wrong text", house.count(6), 0);
        CHECK.due("tell of nothing", house.tell(), 0);
        CHECK.throwing("end", IllegalArgumentException.class, () -> house.end(1));
        CHECK.program("1");
        CHECK.due("bytes behind a program", house.count(6), 0);
        CHECK.programWrong(3, "^x");
        CHECK.due("bytes behind a wrong program", house.count(6), 0);
        CHECK.due("program of nothing", house.program(), 0);
    }

    private static void tellAnswers() {
        DispatchHouse house = CHECK.sentence("Promise 4: -1, or the PLACE where it is WRONG (from 0)");
        CHECK.tellWrong(1, "^A");
        CHECK.tellWrong(1, " ^A");
        CHECK.tell("kind A;");
        CHECK.feed("kind B;" + Check.times(8000, " ") + "kind A;");
        CHECK.due("a place far behind", house.tell(), 8012);
        CHECK.due("REASON", house.count(4), 2);
    }

    private static void programInPlace() {
        DispatchHouse house = CHECK.sentence("Promise 5: The TAPE is the PROGRAM in place of the one before");
        CHECK.gives("1", 1);
        CHECK.program("2");
        CHECK.due("run", house.run(), 0);
        CHECK.due("value", house.told(2), 2);
        CHECK.due("run again", house.run(), 0);
        CHECK.due("value", house.told(2), 2);
        String large = "1" + Check.times(149, "+1");
        CHECK.gives(large, 150);
        CHECK.gives("3", 3);
        CHECK.steps(1);
    }

    private static void programWrongIsNone() {
        DispatchHouse house = CHECK.sentence("Promise 5: or the PLACE where it is WRONG (there is none then)");
        for (String wrong : new String[] {"^", "1 ^1", "^x", "^Any(1)"}) {
            CHECK.gives("1", 1);
            CHECK.programWrong(wrong.endsWith("x") ? 3 : wrong.startsWith("^A") ? 6 : 1, wrong);
            CHECK.throwing("run behind " + wrong, IllegalStateException.class, house::run);
        }
        CHECK.tell("kind A;");
        CHECK.throwing("run behind a text", IllegalStateException.class, house::run);
    }

    private static void clearing() {
        DispatchHouse house = CHECK.sentence("Promise 6: The WORLD is that of the beginning; there is no PROGRAM");
        house.clear();
        CHECK.due("kinds of a new house that was cleared", house.count(0), 3);
        CHECK.tell("kind A; layer L; call f(1) best left; method f(x) = show x; method f(x: Int) in L = 2;");
        CHECK.gives("f(7)", 7);
        CHECK.ran(1);
        house.set(0, 2);
        house.set(1, 1);
        house.set(2, 50);
        CHECK.tellWrong(2, "kind ^A;");
        CHECK.feed("kind A;");
        house.clear();
        // the TAPE, REASON, RESULT, settings and the latest RUN are none of the WORLD
        int[] counts = {3, 0, 0, 0, 2, 2, 7};
        for (int what = 0; what < counts.length; what++) {
            CHECK.due("count " + what, house.count(what), counts[what]);
        }
        int[] told = {0, 1, 7, 4, 1, 1, 2};
        for (int what = 0; what < told.length; what++) {
            CHECK.due("told " + what, house.told(what), told[what]);
        }
        CHECK.due("shown", house.shown(0), 7);
        CHECK.due("word", house.word(0), 0x0001000000000000L);
        CHECK.due("CHOOSING", house.set(0, 0), 2);
        CHECK.due("WAY", house.set(1, 0), 1);
        CHECK.due("FUEL", house.set(2, 10000), 50);
        CHECK.throwing("run", IllegalStateException.class, house::run);
        CHECK.throwing("below", IndexOutOfBoundsException.class, () -> house.below(3, 0) ? 1 : 0);
        CHECK.throwing("call", IndexOutOfBoundsException.class, () -> house.call(0, 0));
        CHECK.throwing("drop", IndexOutOfBoundsException.class, () -> house.drop(1) ? 1 : 0);
        CHECK.due("tell of the TAPE", house.tell(), -1);
    }

    private static void clearedNames() {
        DispatchHouse house = CHECK.sentence("Promise 6: The WORLD is that of the beginning (what was told is not told)");
        CHECK.tell("kind A bare; kind B < A, Int; layer L; call f(2) sum near; method f(x, y) if x < y = 1; method f(x, y == 3) = 2;");
        CHECK.due("nearer", house.nearer(1, 2, 1, 1, 0), 0);
        house.drop(1);
        house.clear();
        for (String program : new String[] {"^f(1)", "^A(1)", "with ^L do 1"}) {
            CHECK.programWrong(3, program);
        }
        CHECK.tell("layer A; kind L; kind f; call B(1) best left; method B(x) = 1; method B(x: L) = next + 10;");
        CHECK.due("below", house.below(4, 1), false);
        CHECK.due("row", house.row(4, 0, 2), -1);
        CHECK.gives("with A do B(L(1)) + B(f(1))", 12);
        CHECK.ran(2, 1, 1);
        CHECK.due("nearer", house.nearer(1, 2, 3, 0, 0), 1);
        CHECK.due("methods", house.call(0, 0), 2);
        CHECK.due("WHOLE", house.call(0, 5), 0);
        house.clear();
        CHECK.tell("call f(1) best left; method f(x) if x < 1 = 1; method f(x) if x < 2 = 2; method f(x == 3) if x < 3 = 3;");
        CHECK.due("nearer", house.nearer(1, 2, 1, 0, 0), -1);
        CHECK.gives("f(0)", 1);
        house.clear();
        CHECK.tell("call f(1) best left; method f(x) if x < 2 = 1; method f(x) if x < 1 = 2;");
        CHECK.due("nearer", house.nearer(1, 2, 1, 0, 0), 1);
        CHECK.gives("f(0)", 2);
    }

    private static void dropping() {
        DispatchHouse house = CHECK.sentence("Promise 7: Method m is gone, for good: whether it was there");
        CHECK.tell("call f(1) best left; method f(x) = 1; method f(x: Int) = 2;");
        CHECK.due("drop 2", house.drop(2), true);
        CHECK.due("drop 2 again", house.drop(2), false);
        CHECK.due("drop 2 again", house.drop(2), false);
        CHECK.gives("f(1)", 1);
        CHECK.tell("kind A;");
        CHECK.due("drop 2 behind a text", house.drop(2), false);
        CHECK.due("drop 1", house.drop(1), true);
        CHECK.faults("f(1)", 1);
        house.clear();
        CHECK.tell("call f(1) best left; method f(x) = 1; method f(x: Int) = 2;");
        CHECK.due("drop 2 of another WORLD", house.drop(2), true);
    }

    private static void droppedForGood() {
        DispatchHouse house = CHECK.sentence("Promise 7: (Its number is not given again; it is none of the call's any more.)");
        CHECK.tell("call f(1) best left; method f(x) = 1; method f(x: Int) = 2; method f(x: Int == 3) around = 3;");
        CHECK.program("f(3)");
        house.drop(2);
        CHECK.due("methods told", house.count(2), 3);
        CHECK.due("methods of the call", house.call(0, 0), 2);
        CHECK.due("LISTS", house.call(0, 1), 2);
        CHECK.throwing("nearer", IndexOutOfBoundsException.class, () -> house.nearer(2, 1, 1, 0, 0));
        house.drop(3);
        CHECK.due("LISTS", house.call(0, 1), 1);
        CHECK.due("run of the PROGRAM that stays", house.run(), 0);
        CHECK.due("value", house.told(2), 1);
        CHECK.due("LOOKS", house.told(6), 1);
        CHECK.tell("method f(x: Int) = 4;");
        CHECK.due("methods told", house.count(2), 4);
        CHECK.gives("f(3)", 4);
        CHECK.ran(4);
    }

    private static void dropThrows() {
        DispatchHouse house = CHECK.sentence("Promise 7: IndexOutOfBoundsException: m is not 1 to how many were told");
        CHECK.refused("drop 1 of a new house", IndexOutOfBoundsException.class, () -> house.drop(1) ? 1 : 0);
        CHECK.tell("call f(1) best left; method f(x) = 1; method f(x: Int) = 2;");
        CHECK.refused("drop 0", IndexOutOfBoundsException.class, () -> house.drop(0) ? 1 : 0);
        for (int m : new int[] {0, -1, 3, 4, 120, 121, 122, Integer.MIN_VALUE, Integer.MAX_VALUE}) {
            CHECK.throwing("drop " + m, IndexOutOfBoundsException.class, () -> house.drop(m) ? 1 : 0);
        }
        CHECK.tellWrong(3, "method f(x: Fault) = 1; method f(x == 1) = ^y;");
        CHECK.refused("drop 3 behind a wrong text", IndexOutOfBoundsException.class, () -> house.drop(3) ? 1 : 0);
        CHECK.due("drop 2", house.drop(2), true);
        CHECK.due("drop 1", house.drop(1), true);
        CHECK.refused("drop 3", IndexOutOfBoundsException.class, () -> house.drop(3) ? 1 : 0);
    }

    private static void setAnswersWhatItWas() {
        DispatchHouse house = CHECK.sentence("Promise 8: What 0: CHOOSING, 0 to 3; 1: WAY of ROWS, 0 to 2; 2: FUEL, 1 to 100000: what it was");
        int[][] all = {{0, 3, 2, 1, 0, 0}, {0, 2, 1, 0, 0}, {10000, 1, 100000, 99999, 2, 2}};
        for (int what = 0; what < 3; what++) {
            for (int i = 1; i < all[what].length; i++) {
                CHECK.due("set " + what + " " + all[what][i], house.set(what, all[what][i]), all[what][i - 1]);
            }
        }
        CHECK.due("FUEL of 2", house.set(2, 1), 2);
        CHECK.run("1 + 1", 4, -1, 0);
        CHECK.steps(1);
    }

    private static void setThrows() {
        DispatchHouse house = CHECK.sentence("Promise 8: IllegalArgumentException for others");
        int[][] wrong = {{0, -1}, {0, 4}, {0, Integer.MAX_VALUE}, {0, Integer.MIN_VALUE}, {1, -1}, {1, 3}, {1, Integer.MAX_VALUE}, {1, Integer.MIN_VALUE},
            {2, 0}, {2, -1}, {2, 100001}, {2, Integer.MAX_VALUE}, {2, Integer.MIN_VALUE}, {3, 0}, {3, 1}, {-1, 0}, {-1, 1},
            {Integer.MAX_VALUE, 1}, {Integer.MIN_VALUE, 1}};
        house.set(0, 2);
        house.set(1, 2);
        house.set(2, 77);
        CHECK.refused("set 0 4", IllegalArgumentException.class, () -> house.set(0, 4));
        CHECK.refused("set 1 3", IllegalArgumentException.class, () -> house.set(1, 3));
        CHECK.refused("set 2 0", IllegalArgumentException.class, () -> house.set(2, 0));
        for (int[] one : wrong) {
            CHECK.throwing("set " + one[0] + " " + one[1], IllegalArgumentException.class, () -> house.set(one[0], one[1]));
        }
        CHECK.due("CHOOSING", house.set(0, 0), 2);
        CHECK.due("WAY", house.set(1, 0), 2);
        CHECK.due("FUEL", house.set(2, 1), 77);
    }

    private static void counting() {
        DispatchHouse house = CHECK.sentence("Promise 9: What 0: kinds, 1: calls, 2: methods told, 3: layers, .. 5: bytes of RESULT, 6: of the TAPE");
        CHECK.tell("kind A; kind B bare; layer L; layer M; layer N; call f(1) best left; method f(x) = 1; method f(x: A) = 1;");
        CHECK.tell("method f(x: B) = 1; method f(x: Int) = 1;");
        CHECK.gives("f(1) + f(1)", 2);
        house.drop(3);
        house.ran();
        house.feed(0, 0, 0, 0, 0);
        house.end(13);
        int[] counts = {5, 1, 4, 3, 0, 4, 13};
        for (int what = 0; what < counts.length; what++) {
            CHECK.due("count " + what, house.count(what), counts[what]);
        }
    }

    private static void reasonOfTheLatest() {
        DispatchHouse house = CHECK.sentence("Promise 9: 4: REASON of the latest text");
        CHECK.due("REASON of a new house", house.count(4), 0);
        CHECK.tellWrong(1, "kind^");
        CHECK.tellWrong(2, "kind ^Int;");
        CHECK.tellWrong(3, "kind A < ^B;");
        CHECK.tellWrong(4, "call f(^0) best left;");
        CHECK.tellWrong(5, "kind A < Int, ^Int;");
        CHECK.programWrong(6, "^Any(1)");
        CHECK.tellWrong(7, "layer a; layer b; layer c; layer d; layer e; layer f; layer g; layer h; layer ^i;");
        CHECK.due("REASON stays", house.count(4), 7);
        CHECK.program("1");
        CHECK.due("REASON of a right program", house.count(4), 0);
        CHECK.programWrong(3, "^x");
        house.feed(0, 0, 0, 0, 0);
        house.clear();
        CHECK.due("REASON stays", house.count(4), 3);
        CHECK.tell("kind A;");
        CHECK.due("REASON of a right text", house.count(4), 0);
    }

    private static void countThrows() {
        DispatchHouse house = CHECK.sentence("Promise 9: IllegalArgumentException for others");
        for (int what : new int[] {-1, 7, 8, Integer.MIN_VALUE, Integer.MAX_VALUE}) {
            CHECK.refused("count " + what, IllegalArgumentException.class, () -> house.count(what));
        }
        CHECK.due("count 6", house.count(6), 0);
    }

    private static void wrongChangesNothing() {
        DispatchHouse house = CHECK.sentence("a WRONG one changes nothing");
        String world = "kind A; kind B < A; layer L; call f(1) best left; method f(x) = 1; method f(x: A) if x < 5 = next + 10;";
        CHECK.tell(world);
        CHECK.gives("f(B(1)) + f(1)", 12);
        String much = "kind C < A; kind D bare; layer M; call g(2) sum near; method g(x, y) if x < y = 1; method f(x: C) = 5; method f(x: A) if x < 6 = 7;"
            + "method f(x: Int) = 3; method f(x) around = 9; ";
        for (int round = 0; round < 3; round++) {
            CHECK.tellWrong(round == 0 ? 1 : round == 1 ? 3 : 2, much + (round == 0 ? "kind^" : round == 1 ? "kind E < ^Q;" : "layer ^C;"));
            int[] counts = {5, 1, 2, 1};
            for (int what = 0; what < counts.length; what++) {
                CHECK.due("count " + what, house.count(what), counts[what]);
            }
            CHECK.due("methods", house.call(0, 0), 2);
            CHECK.due("LISTS", house.call(0, 1), 2);
            CHECK.due("CELLS", house.call(0, 2), 4);
            CHECK.due("WHOLE", house.call(0, 5), 0);
            CHECK.due("run", house.run(), 0);
            CHECK.due("value", house.told(2), 12);
            CHECK.throwing("kind 5", IndexOutOfBoundsException.class, () -> house.below(5, 0) ? 1 : 0);
            CHECK.throwing("call 1", IndexOutOfBoundsException.class, () -> house.call(1, 0));
            CHECK.throwing("method 3", IndexOutOfBoundsException.class, () -> house.nearer(3, 1, 1, 0, 0));
        }
        // what it told is free to be told
        CHECK.tell("layer C; kind M; kind g; call D(1) best left; method D(x) = 2; method f(x: g) = 100;");
        CHECK.gives("f(g(1)) + f(B(1)) + f(1) + D(M(1))", 114);
        CHECK.programWrong(1, "f(B(1)) +^");
        CHECK.gives("f(B(1))", 11);
        // nor does a method that was not told leave anything to the one that gets its number
        CHECK.anew();
        CHECK.tell("kind A; layer L; call f(2) best left; method f(x, y) = 1;");
        CHECK.tellWrong(3, "method f(x: A == 1, y: A == 2) around in L if x < 1 and y < 2 = ^q;");
        CHECK.tell("method f(x, y: Int) = 2;");
        CHECK.tellWrong(2, "method ^f(x, y: Int) = 2;");
        CHECK.gives("f(A(5), 6)", 2);
        CHECK.ran(2);
        CHECK.due("WHOLE", CHECK.house().call(0, 5), 0);
        CHECK.tellWrong(3, "method f(x: Int, y) if x<1 or x<2 or x<3 or x<4 or x<5 or x<6 = 1; method f(x: Int, y) if x<1 or x<2 or x<3 or x<4 or x<5 or x<6 = ^q;");
        CHECK.tell("method f(x: Int, y) = 3; method f(x: Int, y: Int) = 4;");
        CHECK.due("WHOLE", CHECK.house().call(0, 5), 0);
        // SPECS and tests that are too many change none of those that are there
        CHECK.anew();
        CHECK.tell("kind A; call h(3) best left; call f(1) best left; method h(x: A, y: A == 1, z: A == 2) if x < 5 = 7;");
        CHECK.tellWrong(4, "method f(x: Int, ^y: Int == 5) = 1;");
        CHECK.tellWrong(4, "method f(x: Int, ^y: Int == 5, z: Int == 6, u: Int == 7, v: Int == 8) = 1;");
        CHECK.tellWrong(4, "method h(x, y, z, ^u: Int == 5, v: Int == 6) if x < 1 = 1;");
        CHECK.tellWrong(7, "method f(x) if x<9 or x<8 or x<7 or x<6 or x<5 or x<4 or ^x<3 or x<2 or x<1 = 1;");
        CHECK.tellWrong(7, "method f(x) = #1" + Check.times(149, "+1") + " ^+ 1" + Check.times(200, "+1") + ";");
        CHECK.gives("h(A(4), A(1), A(2))", 7);
        CHECK.tell("kind B;");
        CHECK.gives("h(A(4), A(1), A(2))", 7);
        CHECK.faults("h(A(5), A(1), A(2))", 1);
        CHECK.faults("h(A(4), A(1), A(6))", 1);
        CHECK.faults("h(A(4), A(1), 2)", 1);
        CHECK.due("LISTS", CHECK.house().call(0, 1), 2);
    }

    private static void rightComesToIt() {
        DispatchHouse house = CHECK.sentence("A WORLD is what was told; a right TEXT comes to it");
        CHECK.tell("kind A;");
        CHECK.tell("kind B < A; call f(1) best left;");
        CHECK.tell("method f(x: B) = 1;");
        CHECK.gives("f(B(1))", 1);
        CHECK.tell("method f(x: A) = 2; kind C < B; layer L;");
        CHECK.due("run of the PROGRAM that stays", house.run(), 0);
        CHECK.tell("method f(x: C) in L = next + 10;");
        CHECK.gives("with L do f(C(1)) + f(A(1))", 13);
        int[] counts = {6, 1, 3, 1};
        for (int what = 0; what < counts.length; what++) {
            CHECK.due("count " + what, house.count(what), counts[what]);
        }
    }

    private static void thrownChangesNothing() {
        CHECK.sentence("what throws changes nothing");
        String[] names = {"end", "drop", "set", "count", "below", "row", "nearer", "call", "told", "shown", "word"};
        for (int i = 0; i < names.length; i++) {
            DispatchHouse house = CHECK.anew();
            CHECK.tell("kind A; layer L; call f(1) best left; method f(x) = show x; method f(x: A) = next;");
            CHECK.gives("f(A(5)) + f(6)", 11);
            house.ran();
            CHECK.feed("kind B;");
            Check.Ask[] asks = {() -> house.end(8), () -> house.drop(3) ? 1 : 0, () -> house.set(0, 4), () -> house.count(7),
                () -> house.below(4, 0) ? 1 : 0, () -> house.row(0, 3, 0), () -> house.nearer(1, 2, 1, 0, 0), () -> house.call(0, 9),
                () -> house.told(7), () -> house.shown(2), () -> house.word(6)};
            boolean isIndex = "drop below shown word".contains(names[i]);
            CHECK.refused(names[i], isIndex ? IndexOutOfBoundsException.class : IllegalArgumentException.class, asks[i]);
            CHECK.due("tell of the TAPE", house.tell(), -1);
            CHECK.due("kinds", house.count(0), 5);
            CHECK.due("run of the PROGRAM", house.run(), 0);
            CHECK.due("its value", house.told(2), 11);
        }
    }
}
