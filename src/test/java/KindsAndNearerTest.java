/** Promises 7 and 10 to 12: dropping, kinds, their rows, and which of two methods is nearer. */
public final class KindsAndNearerTest {
    private static final Check CHECK = new Check();
    private static final int ANY = 0;
    private static final int INT = 1;
    private static final int FAULT = 2;

    public static void main(String[] args) {
        below();
        rows();
        dropping();
        nearerByWays();
        nearerByRows();
        nearerByAsking();
        nearerAtTheEndsOfInt();
        nearerByKindsAsked();
        nearerAnew();
        nearerThrows();
        CHECK.done();
    }

    private static void below() {
        DispatchHouse house = CHECK.anew();
        CHECK.tell("kind A; kind B < A bare; kind C < B, Int; kind D;");
        boolean[][] want = {
            {true, false, false, false, false, false, false},
            {true, true, false, false, false, false, false},
            {true, false, true, false, false, false, false},
            {true, false, false, true, false, false, false},
            {true, false, false, true, true, false, false},
            {true, true, false, true, true, true, false},
            {true, false, false, false, false, false, true}};
        for (int a = 0; a < want.length; a++) {
            for (int b = 0; b < want.length; b++) {
                CHECK.due("below " + a + " " + b, house.below(a, b), want[a][b]);
            }
        }
        int[][] wrong = {{-1, 0}, {0, -1}, {7, 0}, {0, 7}, {Integer.MAX_VALUE, 0}, {0, Integer.MIN_VALUE}};
        for (int[] one : wrong) {
            CHECK.throwing("below " + one[0] + " " + one[1], IndexOutOfBoundsException.class,
                () -> house.below(one[0], one[1]) ? 1 : 0);
        }
    }

    private static void row(int k, int way, int... want) {
        for (int i = 0; i < want.length; i++) {
            CHECK.due("row " + k + " " + way + " " + i, CHECK.house().row(k, way, i), want[i]);
        }
        CHECK.due("row " + k + " " + way + " behind its end", CHECK.house().row(k, way, want.length), -1);
        CHECK.due("row " + k + " " + way + " far behind", CHECK.house().row(k, way, Integer.MAX_VALUE), -1);
    }

    private static void rows() {
        DispatchHouse house = CHECK.anew();
        for (int way = 0; way < 3; way++) {
            row(ANY, way, 0);
            row(INT, way, 1, 0);
            row(FAULT, way, 2, 0);
        }
        // 3 A, 4 B < A, 5 C < A, 6 D < B, C; 7 E < Int, 8 F < D, E; 9 G < C, Any
        CHECK.tell("kind A; kind B < A; kind C < A; kind D < B, C; kind E < Int; kind F < D, E; kind G < C, Any;");
        row(6, 0, 6, 4, 5, 3, 0);
        row(6, 1, 6, 4, 3, 0, 5);
        row(6, 2, 6, 4, 5, 3, 0);
        row(8, 0, 8, 6, 4, 5, 3, 7, 1, 0);
        row(8, 1, 8, 6, 4, 3, 0, 5, 7, 1);
        row(8, 2, 8, 6, 4, 5, 3, 7, 1, 0);
        row(9, 0, 9, 5, 3, 0);
        // a row by way 2 may put a parent behind its own: here 10 H < A, Int, and 11 J < H, Int
        CHECK.tell("kind H < A, Int; kind J < H, Int;");
        row(11, 0, 11, 10, 3, 1, 0);
        row(11, 1, 11, 10, 3, 0, 1);
        row(11, 2, 11, 10, 3, 1, 0);
        CHECK.throwing("row of none", IndexOutOfBoundsException.class, () -> house.row(12, 0, 0));
        CHECK.throwing("row of -1", IndexOutOfBoundsException.class, () -> house.row(-1, 0, 0));
        CHECK.throwing("row from -1", IndexOutOfBoundsException.class, () -> house.row(0, 0, -1));
        CHECK.throwing("row by way 3", IllegalArgumentException.class, () -> house.row(0, 3, 0));
        CHECK.throwing("row by way -1", IllegalArgumentException.class, () -> house.row(0, -1, 99));
        CHECK.throwing("row wrong twice", IndexOutOfBoundsException.class, () -> house.row(0, 3, -1));
        CHECK.throwing("row wrong twice", IndexOutOfBoundsException.class, () -> house.row(99, 3, 0));
    }

    private static void dropping() {
        DispatchHouse house = CHECK.anew();
        CHECK.tell("call f(1) best left; method f(x) = 1; method f(x: Int) = 2; method f(x: Int == 3) = 3;");
        CHECK.throwing("drop 0", IndexOutOfBoundsException.class, () -> house.drop(0) ? 1 : 0);
        CHECK.throwing("drop 4", IndexOutOfBoundsException.class, () -> house.drop(4) ? 1 : 0);
        CHECK.throwing("drop -1", IndexOutOfBoundsException.class, () -> house.drop(-1) ? 1 : 0);
        CHECK.gives("f(3)", 3);
        CHECK.due("drop", house.drop(3), true);
        CHECK.due("drop again", house.drop(3), false);
        CHECK.gives("f(3)", 2);
        CHECK.due("methods", house.call(0, 0), 2);
        CHECK.due("methods told", house.count(2), 3);
        CHECK.tell("method f(x: Int == 3) = 4;");
        CHECK.gives("f(3)", 4);
        CHECK.ran(4);
        CHECK.due("drop", house.drop(1), true);
        CHECK.due("drop", house.drop(2), true);
        CHECK.faults("f(4)", 1);
        CHECK.due("drop the last", house.drop(4), true);
        CHECK.faults("f(3)", 1);
        CHECK.due("methods", house.call(0, 0), 0);
    }

    private static void nearer(int want, int m, int n, int a, int b, int c) {
        String what = "nearer " + m + " " + n + " for " + a + " " + b + " " + c;
        CHECK.due(what, CHECK.house().nearer(m, n, a, b, c), want);
        CHECK.due(what + " the other way round", CHECK.house().nearer(n, m, a, b, c), -want);
    }

    private static void nearerByWays() {
        DispatchHouse house = CHECK.anew();
        // 3 A, 4 B < A, 5 C < B
        CHECK.tell("kind A; kind B < A; kind C < B;");
        String[] ways = {"left", "each", "near"};
        for (int w = 0; w < 3; w++) {
            String f = "method " + ways[w] + "f";
            CHECK.tell("call " + ways[w] + "f(2) best " + ways[w] + ";" + f + "(x: A, y: C) = 1;" + f + "(x: B, y: A) = 1;"
                + f + "(x: B, y: B) = 1;" + f + "(x, y) = 1;" + f + "(x: C, y) = 1;");
        }
        // by left the first place decides
        nearer(1, 1, 2, 5, 5, 0);
        nearer(1, 2, 3, 5, 5, 0);
        nearer(1, 4, 1, 5, 5, 0);
        nearer(1, 3, 5, 5, 5, 0);
        nearer(0, 3, 3, 5, 5, 0);
        // by each both have to be below
        nearer(0, 6, 7, 5, 5, 0);
        nearer(1, 7, 8, 5, 5, 0);
        nearer(-1, 6, 9, 5, 5, 0);
        nearer(0, 8, 10, 5, 5, 0);
        nearer(1, 9, 10, 5, 5, 0);
        // by near the sums of places in 5, 4, 3, 0: 2 + 0, 1 + 2, 1 + 1, 3 + 3, 0 + 3
        nearer(-1, 11, 12, 5, 5, 0);
        nearer(0, 11, 13, 5, 5, 0);
        nearer(-1, 13, 12, 5, 5, 0);
        nearer(0, 12, 15, 5, 5, 0);
        nearer(-1, 15, 14, 5, 5, 0);
        CHECK.tell("call leftg(3) best left; method leftg(x, y: Int, z) = 1; method leftg(x, y, z: Int) = 1;"
            + "call eachg(3) best each; method eachg(x, y: Int, z) = 1; method eachg(x, y, z: Int) = 1;"
            + "call nearg(3) best near; method nearg(x, y: Int, z) = 1; method nearg(x: A, y, z: Int) = 1;");
        nearer(-1, 16, 17, 2, 1, 1);
        nearer(0, 18, 19, 2, 1, 1);
        nearer(1, 20, 21, 5, 1, 1);
        CHECK.due("bare kinds are kinds", house.nearer(4, 4, 0, 0, 0), 0);
    }

    private static void nearerByRows() {
        DispatchHouse house = CHECK.anew();
        // 3 A, 4 B < A, 5 C < A, 6 D < B, C: rows 6 4 5 3 0, 6 4 3 0 5, 6 4 5 3 0
        CHECK.tell("kind A; kind B < A; kind C < A; kind D < B, C;");
        CHECK.tell("call l(1) best left; method l(x: A) = 1; method l(x: C) = 1; method l(x: B) = 1; method l(x) = 1;");
        CHECK.tell("call e(1) best each; method e(x: A) = 1; method e(x: C) = 1; method e(x: B) = 1;");
        CHECK.tell("call n(2) best near; method n(x: A, y) = 1; method n(x: C, y: Int) = 1;");
        nearer(1, 1, 2, 6, 0, 0);
        nearer(1, 2, 3, 6, 0, 0);
        nearer(-1, 2, 4, 6, 0, 0);
        nearer(1, 8, 9, 6, 1, 0);
        house.set(1, 1);
        nearer(-1, 1, 2, 6, 0, 0);
        nearer(1, 2, 4, 6, 0, 0);
        nearer(1, 2, 3, 6, 0, 0);
        nearer(1, 5, 6, 6, 0, 0);
        nearer(0, 6, 7, 6, 0, 0);
        nearer(-1, 8, 9, 6, 1, 0);
        house.set(1, 2);
        nearer(1, 1, 2, 6, 0, 0);
    }

    /** Which of two methods of two places asks more: each a test, or the number of an == of x behind a ; . */
    private static void asks(int want, String one, String other) {
        CHECK.anew();
        CHECK.tell("kind K; call f(2) best left;");
        CHECK.tell(method(one));
        CHECK.tell(method(other));
        nearer(want, 1, 2, 3, 3, 0);
    }

    private static String method(String test) {
        if (test.charAt(0) == ';') {
            return "method f(x == " + test.substring(1) + ", y) = 1;";
        }
        return "method f(x, y) if " + test + " = 1;";
    }

    private static void nearerByAsking() {
        asks(-1, "x < 1", "x < 2");
        asks(0, "x < 1", "x <= 0");
        asks(0, "x < 1", "1 < x");
        asks(-1, "x < 1", "x < 1 or 5 < x");
        asks(1, "x < 1", "x < 1 and y < 1");
        asks(0, "x < 1", "y < 1");
        asks(-1, ";1", "x == 1 or x == 2");
        asks(0, ";1", "x == 1");
        asks(1, "x < 3", ";2");
        asks(0, "x < 3", ";3");
        asks(-1, ";1", "x < 2 or not x < 2");
        asks(-1, "x < y", "x <= y");
        asks(-1, "x < y", "x < y + 1");
        asks(0, "x < y + 1", "x <= y");
        asks(0, "x - 1 < y", "x <= y");
        asks(-1, "x == y", "x <= y");
        asks(-1, "x == y and y == 3", "x == 3");
        asks(-1, "x < y and y < x", "x == 3");
        asks(0, "x < y and y < x", "y < x and not y < x");
        asks(-1, "x < y and y < 5", "x <= 3");
        asks(0, "x < y and y < 5", "x < 3");
        asks(0, "not (x < y or y < x)", "x == y");
        asks(-1, "x <= y - 1 and y <= 10", "x + 1 <= 10");
        asks(0, "x is K", "x is Any");
        asks(-1, "x is Int", "x is K");
        asks(-1, "x is K and x < 1", "y is K");
        asks(-1, "1 < 0", "x is K");
        asks(-1, "not x == 0 and not x == 1 and 0 <= x and x <= 2", "0 <= x");
        asks(0, "not x == 0 and not x == 1 and 0 <= x and x <= 2", "x == 2");
    }

    private static void nearerAtTheEndsOfInt() {
        asks(0, "x <= 2147483647", "y < y + 1");
        asks(-1, "x < 2147483647", "y < y + 1");
        asks(0, "x + 1 <= 2147483647", "x < 2147483647");
        asks(0, "2147483647 < x", "x < x");
        asks(0, "2147483647 < x", "x + 1 < x");
        asks(-1, "2147483646 < x", "2147483645 < x");
        asks(0, "2147483646 < x", "x == 2147483647");
        asks(0, "x <= -2147483647 and not x == -2147483647", "x + 2147483647 < 0");
        asks(-1, "y < x and x < -2147483646", "x == -2147483647");
        asks(0, "y < x and x <= -2147483647", "x == -2147483647 and y + 1 == x");
        asks(-1, "x == 2147483647 and x < y + 2147483647", "0 < y or x == 7");
        asks(-1, "x - 2147483647 == y", "y <= 0");
    }

    private static void nearerByKindsAsked() {
        CHECK.anew();
        CHECK.tell("kind A; kind B < A; call f(1) best left; method f(x) if x is A and x < 5 = 1; method f(x) if x is B = 1;"
            + "method f(x) = 1; method f(x: A) if x is B = 1;");
        nearer(-1, 1, 3, 3, 0, 0);
        nearer(1, 1, 2, 3, 0, 0);
        nearer(-1, 1, 2, 4, 0, 0);
        nearer(1, 2, 1, 4, 0, 0);
        nearer(-1, 1, 3, 1, 0, 0);
        nearer(0, 2, 3, 4, 0, 0);
        nearer(-1, 4, 1, 4, 0, 0);
    }

    private static void nearerAnew() {
        DispatchHouse house = CHECK.anew();
        CHECK.tell("call f(1) best left; method f(x) if x < 1 = 1; method f(x) if x < 2 = 1;");
        nearer(-1, 1, 2, 1, 0, 0);
        house.clear();
        CHECK.tell("call f(1) best left; method f(x) if x < 2 = 1; method f(x) if x < 1 = 1;");
        nearer(1, 1, 2, 1, 0, 0);
    }

    private static void nearerThrows() {
        DispatchHouse house = CHECK.anew();
        CHECK.tell("kind A; call f(1) best left; call g(2) best left; method f(x: A) = 1; method f(x) = 1; method g(x, y) = 1;"
            + "method g(x, y: A) = 1; method f(x: Int) = 1;");
        house.drop(5);
        CHECK.due("one place asks one kind", house.nearer(1, 2, 3, -1, 99), -1);
        int[][] none = {{0, 1, 3, 0, 0}, {1, 0, 3, 0, 0}, {6, 1, 3, 0, 0}, {1, 6, 3, 0, 0}, {5, 2, 1, 0, 0}, {2, 5, 1, 0, 0},
            {1, 2, -1, 0, 0}, {1, 2, 4, 0, 0}, {3, 4, 3, 4, 0}, {3, 4, 3, -1, 0}, {3, 4, 4, 3, 0}, {1, 3, 4, 0, 0},
            {0, 3, 9, 9, 9}};
        for (int[] one : none) {
            CHECK.throwing("nearer " + one[0] + " " + one[1], IndexOutOfBoundsException.class,
                () -> house.nearer(one[0], one[1], one[2], one[3], one[4]));
        }
        int[][] wrong = {{1, 3, 3, 3, 0}, {4, 2, 3, 3, 0}, {1, 2, 0, 0, 0}, {1, 2, 1, 0, 0}, {2, 1, 2, 0, 0}, {3, 4, 3, 1, 0}};
        for (int[] one : wrong) {
            CHECK.throwing("nearer " + one[0] + " " + one[1], IllegalArgumentException.class,
                () -> house.nearer(one[0], one[1], one[2], one[3], one[4]));
        }
    }
}
