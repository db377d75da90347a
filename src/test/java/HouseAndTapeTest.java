/** Promises 1 to 3, 6, 8 and 9: a new house, the tape, clearing, setting and counting. */
public final class HouseAndTapeTest {
    private static final Check CHECK = new Check();

    public static void main(String[] args) {
        newHouse();
        feedAndEnd();
        fullTape();
        settings();
        counts();
        clearing();
        exampleOfReadme();
        CHECK.done();
    }

    private static void newHouse() {
        DispatchHouse house = CHECK.anew();
        int[] counts = {3, 0, 0, 0, 0, 0, 0};
        for (int i = 0; i < counts.length; i++) {
            CHECK.due("count " + i + " of a new house", house.count(i), counts[i]);
        }
        int[] told = {-1, -1, 0, 0, 0, 0, 0};
        for (int i = 0; i < told.length; i++) {
            CHECK.due("told " + i + " of a new house", house.told(i), told[i]);
        }
        CHECK.throwing("run of a new house", IllegalStateException.class, house::run);
        CHECK.throwing("ran of a new house", IllegalStateException.class, house::ran);
        CHECK.throwing("shown of a new house", IndexOutOfBoundsException.class, () -> house.shown(0));
        CHECK.throwing("word of a new house", IndexOutOfBoundsException.class, () -> house.word(0));
        CHECK.throwing("drop of a new house", IndexOutOfBoundsException.class, () -> house.drop(1) ? 1 : 0);
        CHECK.due("Any is below Any", house.below(0, 0), true);
        CHECK.due("Int is below Any", house.below(1, 0), true);
        CHECK.due("Fault is below Any", house.below(2, 0), true);
        CHECK.due("Any is below Int", house.below(0, 1), false);
        CHECK.programWrong(6, "^Any(1)");
        CHECK.gives("Int(5)", 5);
        CHECK.run("Fault(5)", 0, 2, 5);
    }

    private static void feedAndEnd() {
        DispatchHouse house = CHECK.anew();
        CHECK.due("feed", house.feed(0x6B696E64, 0x20413B20, 0x6B696E64, 0x20423B20, 0x20202020), 20);
        CHECK.due("count 6", house.count(6), 20);
        CHECK.throwing("end beyond", IllegalArgumentException.class, () -> house.end(21));
        CHECK.throwing("end below", IllegalArgumentException.class, () -> house.end(-1));
        CHECK.throwing("end far below", IllegalArgumentException.class, () -> house.end(Integer.MIN_VALUE));
        CHECK.due("count 6 behind throws", house.count(6), 20);
        CHECK.due("end at length", house.end(20), 20);
        CHECK.due("end", house.end(7), 7);
        CHECK.due("count 6 behind end", house.count(6), 7);
        CHECK.throwing("end beyond what is kept", IllegalArgumentException.class, () -> house.end(8));
        CHECK.due("feed behind end", house.feed(0x206B696E, 0x6420423B, 0, 0, 0), 27);
        CHECK.due("end behind feed", house.end(15), 15);
        CHECK.due("tell", house.tell(), -1);
        CHECK.due("kinds", house.count(0), 5);
        CHECK.due("an empty tape", house.count(6), 0);
        CHECK.due("high bytes", house.feed(-1, -1, -1, -1, -1), 20);
        CHECK.due("tell of high bytes", house.tell(), 0);
        CHECK.due("end of nothing", house.end(0), 0);
        CHECK.throwing("end behind nothing", IllegalArgumentException.class, () -> house.end(1));
    }

    private static void fullTape() {
        DispatchHouse house = CHECK.anew();
        for (int i = 1; i <= 409; i++) {
            CHECK.due("feed " + i, house.feed(0x20202020, 0x0A0D0920, 0x20202020, 0x20202020, 0x20202020), 20 * i);
        }
        CHECK.throwing("feed beyond 8192", IndexOutOfBoundsException.class, () -> house.feed(0, 0, 0, 0, 0));
        CHECK.due("a tape that did not change", house.count(6), 8180);
        CHECK.due("end", house.end(8172), 8172);
        CHECK.due("feed up to 8192", house.feed(0, 0, 0, 0, 0x6B696E64), 8192);
        CHECK.throwing("feed of a full tape", IndexOutOfBoundsException.class, () -> house.feed(0, 0, 0, 0, 0));
        CHECK.due("tell", house.tell(), 8172);
        CHECK.due("REASON", house.count(4), 1);
        CHECK.due("feed again", house.feed(0, 0, 0, 0, 0), 20);
    }

    private static void settings() {
        DispatchHouse house = CHECK.anew();
        CHECK.due("CHOOSING at first", house.set(0, 3), 0);
        CHECK.due("CHOOSING then", house.set(0, 1), 3);
        CHECK.due("WAY at first", house.set(1, 2), 0);
        CHECK.due("WAY then", house.set(1, 0), 2);
        CHECK.due("FUEL at first", house.set(2, 1), 10000);
        CHECK.due("FUEL then", house.set(2, 100000), 1);
        int[][] wrong = {{0, -1}, {0, 4}, {1, -1}, {1, 3}, {2, 0}, {2, 100001}, {2, -1}, {3, 0}, {-1, 0}};
        for (int[] one : wrong) {
            CHECK.throwing("set " + one[0] + " " + one[1], IllegalArgumentException.class, () -> house.set(one[0], one[1]));
        }
        CHECK.due("CHOOSING kept", house.set(0, 0), 1);
        CHECK.due("WAY kept", house.set(1, 1), 0);
        CHECK.due("FUEL kept", house.set(2, 5), 100000);
    }

    private static void counts() {
        DispatchHouse house = CHECK.anew();
        CHECK.tell("kind A; kind B < A; layer L; call f(1) best left; method f(x) = x; method f(x: A) = next + 1;");
        int[] counts = {5, 1, 2, 1, 0, 0, 0};
        for (int i = 0; i < counts.length; i++) {
            CHECK.due("count " + i, house.count(i), counts[i]);
        }
        CHECK.throwing("count 7", IllegalArgumentException.class, () -> house.count(7));
        CHECK.throwing("count -1", IllegalArgumentException.class, () -> house.count(-1));
        CHECK.gives("f(A(1))", 2);
        CHECK.due("RESULT is empty before ran", house.count(5), 0);
        CHECK.due("ran", house.ran(), 4);
        CHECK.due("RESULT", house.count(5), 4);
        house.drop(1);
        CHECK.due("methods told, one of them gone", house.count(2), 2);
    }

    private static void clearing() {
        DispatchHouse house = CHECK.anew();
        CHECK.tell("kind A; layer L; call f(1) best left; method f(x) = show x;");
        CHECK.gives("f(7)", 7);
        CHECK.ran(1);
        house.set(0, 2);
        house.set(1, 1);
        house.set(2, 50);
        house.feed(0x6B696E64, 0x20413B20, 0, 0, 0);
        house.clear();
        int[] counts = {3, 0, 0, 0, 0, 2, 20};
        for (int i = 0; i < counts.length; i++) {
            CHECK.due("count " + i + " behind clear", house.count(i), counts[i]);
        }
        CHECK.throwing("run behind clear", IllegalStateException.class, house::run);
        CHECK.due("the latest run", house.told(2), 7);
        CHECK.due("what it showed", house.shown(0), 7);
        CHECK.due("CHOOSING", house.set(0, 0), 2);
        CHECK.due("WAY", house.set(1, 0), 1);
        CHECK.due("FUEL", house.set(2, 10000), 50);
        house.end(8);
        CHECK.due("tell of the tape", house.tell(), -1);
        CHECK.throwing("run behind another tell", IllegalStateException.class, house::run);
        CHECK.tell("call f(2) sum near; method f(x, y) = x * y;");
        CHECK.due("methods anew", house.count(2), 1);
        CHECK.gives("f(6, 7)", 42);
        CHECK.ran(1);
        CHECK.programWrong(3, "with ^L do 1");
    }

    private static void exampleOfReadme() {
        DispatchHouse house = CHECK.anew();
        CHECK.tell("kind A; call f(1) best left; method f(x) = 1; method f(x: A) = next + 10;");
        CHECK.programWrong(1, "f(A(0)) + ^show f(0)");
        CHECK.gives("f(A(0)) + (show f(0))", 12);
        CHECK.showed(1);
        CHECK.ran(2, 1, 1);
        CHECK.due("its bytes", house.word(0), 0x0002000100010000L);
        CHECK.due("whole", house.call(0, 5), 0);
        CHECK.due("nearer", house.nearer(1, 2, 3, 0, 0), 1);
    }
}
