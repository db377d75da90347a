/** Promise 13: what is told of calls. */
public final class CallTest {
    private static final Check CHECK = new Check();

    public static void main(String[] args) {
        noMethods();
        listsAndTables();
        orderOfTree();
        neverFitting();
        growing();
        looks();
        wholeByKinds();
        wholeByNumbers();
        wholeBySeveral();
        wholePlainAlone();
        wholePassedOver();
        wholeByWays();
        manyRows();
        manyMethods();
        droppedOfMany();
        wrongCalls();
        CHECK.done();
    }

    private static void told(int c, int... want) {
        for (int what = 0; what < want.length; what++) {
            CHECK.due("call " + c + " " + what, CHECK.house().call(c, what), want[what]);
        }
    }

    private static void whole(int want, int first, int second, int third) {
        int c = CHECK.house().count(1) - 1;
        int[] all = {want, first, second, third};
        for (int i = 0; i < 4; i++) {
            CHECK.due("call " + c + " " + (5 + i), CHECK.house().call(c, 5 + i), all[i]);
        }
    }

    private static void noMethods() {
        CHECK.anew();
        CHECK.tell("call f(1) best left; call g(3) sum near;");
        told(0, 0, 1, 2, 1, 0, 1, 1, -1, -1);
        told(1, 0, 1, 8, 1, 0, 1, 1, 1, 1);
        CHECK.tell("method g(x, y, z) = 1;");
        told(1, 1, 1, 8, 1, 0, 0, -1, -1, -1);
    }

    private static void listsAndTables() {
        CHECK.anew();
        CHECK.tell("kind A; kind B < A; call f(2) best left; method f(x: A, y) = 1; method f(x, y: A) = 1; method f(x: B, y: B) = 1;");
        told(0, 3, 5, 16, 9, 4, 1, 1, 1, -1);
        CHECK.tell("call g(1) best left; method g(x: A) = 1; method g(x: B) around = 1; method g(x: A) before = 1;");
        told(1, 3, 3, 4, 3, 1, 1, 1, -1, -1);
    }

    private static void orderOfTree() {
        CHECK.anew();
        CHECK.tell("kind A; call f(3) best left; method f(x: A, y: A, z) = 1; method f(x, y: Int, z: A) = 1;");
        told(0, 2, 3, 27, 12, 3);
        CHECK.tell("call g(2) best left; method g(x, y: A) = 1; method g(x: Int, y: Int) = 1;");
        // by the first place first: 1 and 2 nodes; by the second first: 1 and 1
        told(1, 2, 3, 9, 6, 2);
    }

    private static void neverFitting() {
        CHECK.anew();
        CHECK.tell("kind A; kind Z bare; call f(2) best left; method f(x: Z, y: A) = 1; method f(x, y) = 1;");
        told(0, 2, 1, 9, 1, 0, 0, -1, -1, -1);
        CHECK.tell("kind Y < Z;");
        told(0, 2, 2, 16, 4, 2, 0, -1, -1, -1);
    }

    private static void growing() {
        CHECK.anew();
        CHECK.tell("call f(1) best left; method f(x: Int) = 1;");
        told(0, 1, 2, 2, 2, 1, 1, 2, -1, -1);
        CHECK.tell("method f(x: Fault) = 1;");
        told(0, 2, 2, 2, 2, 1, 0, -1, -1, -1);
        CHECK.tell("kind A bare;");
        told(0, 2, 2, 2, 2, 1, 0);
        CHECK.tell("kind B < A;");
        told(0, 2, 3, 3, 3, 1, 1, 4, -1, -1);
        CHECK.house().drop(1);
        told(0, 1, 2, 3, 2, 1, 1, 1, -1, -1);
    }

    private static void looksOf(String program, int... want) {
        for (int choosing = 0; choosing < want.length; choosing++) {
            CHECK.house().set(0, choosing);
            CHECK.program(program);
            CHECK.house().run();
            CHECK.due("LOOKS by " + choosing + " of " + program, CHECK.house().told(6), want[choosing]);
        }
    }

    private static void looks() {
        CHECK.anew();
        CHECK.tell("kind A; call f(3) best left; method f(x: A, y: A, z) = 1; method f(x, y: Int, z: A) = 1;");
        looksOf("f(A(1), 1, 1)", 2, 1, 4, 3);
        looksOf("f(A(1), A(1), 1)", 2, 1, 4, 3);
        looksOf("f(1, Fault(1), A(1))", 2, 1, 4, 2);
        looksOf("f(A(1), A(1), 1) + f(1, 1, A(1))", 4, 2, 8, 6);
        CHECK.tell("call g(1) best left;");
        looksOf("g(1)", 0, 1, 2, 1);
        CHECK.tell("method g(x) = 1; method g(x: Int) = 2; layer L; method g(x: Int) in L = 3; method g(x: Int) around = next;");
        looksOf("g(1)", 4, 1, 2, 2);
        looksOf("7", 0, 0, 0, 0);
        CHECK.house().drop(5);
        // both orders have two nodes: the first place is asked first
        CHECK.tell("call h(2) best left; method h(x: A, y: A) = 1;");
        looksOf("try h(1, A(1)) on x do 1", 1, 1, 3, 2);
        looksOf("try h(A(1), 1) on x do 1", 1, 1, 3, 3);
        looksOf("g(1)", 3, 1, 2, 2);
        looksOf("g(g(1))", 6, 2, 4, 4);
    }

    private static void wholeByKinds() {
        CHECK.anew();
        CHECK.tell("kind A; kind B < A; kind Z bare; call f(1) best left; method f(x: Int) = 1;");
        whole(1, 2, -1, -1);
        CHECK.tell("method f(x: Fault) = 1;");
        whole(1, 3, -1, -1);
        CHECK.tell("method f(x: B) = 1;");
        whole(1, 3, -1, -1);
        CHECK.tell("method f(x: A) = 1;");
        whole(0, -1, -1, -1);
        CHECK.tell("call g(3) any near; method g(x, y: Int, z) = 1; method g(x: Int, y, z) = 1;");
        whole(1, 2, 2, 1);
        CHECK.tell("method g(x, y, z: Int) = 1;");
        whole(1, 2, 2, 2);
    }

    private static void wholeOf(int want, int kind, String... tests) {
        CHECK.anew();
        CHECK.tell("call f(2) best left;");
        for (String test : tests) {
            CHECK.tell("method f(x, y) if " + test + " = 1;");
        }
        whole(want, kind, kind, -1);
    }

    private static void wholeByNumbers() {
        wholeOf(0, -1, "x < 5", "4 < x");
        wholeOf(1, 1, "x < 5", "5 < x");
        wholeOf(0, -1, "x < y", "y < x", "x == y");
        wholeOf(1, 1, "x < y", "y < x");
        wholeOf(1, 1, "x < y + 1", "y + 1 < x");
        wholeOf(0, -1, "x <= 2147483647");
        wholeOf(1, 1, "x < 2147483647");
        wholeOf(0, -1, "x + 2147483647 < 0 or -1 < x + 2147483647");
        wholeOf(0, -1, "not (x < y and y < x)");
        wholeOf(0, -1, "x is Int", "x is Fault");
        CHECK.anew();
        CHECK.tell("call f(1) best left; method f(x == 1) = 1; method f(x) if not x == 1 = 1;");
        whole(0, -1, -1, -1);
        CHECK.tell("call g(1) best left; method g(x: Int == 1) = 1; method g(x: Int) if x < 1 or 1 < x = 1;");
        whole(1, 2, -1, -1);
    }

    private static void wholeBySeveral() {
        wholeOf(2, 1, "x < 5", "3 < x");
        wholeOf(0, -1, "x < 5", "3 < x", "3 < x and x < 5");
        wholeOf(1, 1, "x < 5", "3 < x and x < 9");
        wholeOf(0, -1, "x < 5 or 4 < x", "x < y");
        wholeOf(2, 1, "x < 5 or 4 < x", "x <= y or y < x");
        CHECK.anew();
        CHECK.tell("call f(1) sum left; method f(x) if x < 5 = 1; method f(x) if 3 < x = 1;");
        whole(0, -1, -1, -1);
        CHECK.tell("call g(1) best left; method g(x: Int) if x < 5 = 1; method g(x: Int) if 3 < x = 1;");
        whole(2, 1, -1, -1);
    }

    private static void wholePlainAlone() {
        CHECK.anew();
        CHECK.tell("layer L; call f(1) best left; method f(x) in L = 1; method f(x) around = 1; method f(x) before = 1;"
            + "method f(x) behind = 1;");
        whole(1, 1, -1, -1);
        CHECK.tell("method f(x) if x < 1 = 1; method f(x) if 0 < x = 1;");
        whole(0, -1, -1, -1);
        CHECK.tell("method f(x) in L if x < 7 = 1; method f(x) around if x < 7 = 1;");
        whole(0, -1, -1, -1);
    }

    private static void wholePassedOver() {
        CHECK.anew();
        CHECK.tell("call f(1) best left; method f(x: Int) = 1; method f(x: Int) if x < 1 and x < 2 and x < 3 and x < 4 = 1;"
            + "method f(x: Int == 7) if x is Int and x < 9 and x is Any = 1;");
        whole(1, 2, -1, -1);
        CHECK.tell("method f(x: Int == 5) = 1;");
        whole(-1, -1, -1, -1);
        CHECK.tell("method f(x: Fault) = 1;");
        whole(-1, -1, -1, -1);
        CHECK.house().drop(4);
        whole(0, -1, -1, -1);
        CHECK.tell("call g(1) best left; method g(x: Fault) if x<1 and x<2 and x<3 and x<4 and x<5 and x<6 = 1;"
            + "method g(x: Fault) if 1<x and 2<x and 3<x = 1;");
        whole(1, 1, -1, -1);
        CHECK.tell("method g(x: Int) = 1;");
        whole(-1, -1, -1, -1);
    }

    private static void wholeByWays() {
        CHECK.anew();
        // 3 A, 4 B, 5 C (bare), 6 D: by way 0 D's row is 6 4 5 3 0, by way 1 it is 6 4 3 0 5
        CHECK.tell("kind A; kind B < A; kind C < A bare; kind D < B, C;");
        CHECK.tell("call f(2) best near; method f(x, y) = 1; method f(x: A, y: Int) = 1; method f(x: C, y) = 1;");
        whole(2, 6, 1, -1);
        CHECK.house().set(1, 1);
        whole(0, -1, -1, -1);
        CHECK.house().set(1, 0);
        whole(2, 6, 1, -1);
        CHECK.tell("call g(2) best each; method g(x, y) = 1; method g(x: A, y) = 1; method g(x, y: A) = 1;");
        whole(2, 3, 3, -1);
        CHECK.tell("method g(x: A, y: A) = 1;");
        whole(0, -1, -1, -1);
        CHECK.tell("call h(2) best left; method h(x, y) = 1; method h(x: A, y) = 1; method h(x, y: A) = 1;");
        whole(0, -1, -1, -1);
    }

    private static void manyRows() {
        CHECK.anew();
        StringBuilder kinds = new StringBuilder();
        for (int i = 0; i < 12; i++) {
            kinds.append("kind K").append(i).append(";");
        }
        CHECK.tell(kinds + "call f(2) best left; method f(x, y) = 1; method f(x, y) if x < y = 1;");
        whole(0, -1, -1, -1);
        CHECK.tell("kind K12;");
        // 15 makeable kinds make 225 rows that ask, of which 200 are looked at
        whole(-1, -1, -1, -1);
        CHECK.tell("call g(2) best left; method g(x, y) if x < y = 1; method g(x, y) if y <= x = 1; method g(x: K11, y: Int) if x < y = 1;");
        whole(-1, -1, -1, -1);
        CHECK.tell("call h(2) best left; method h(x: Int, y) if x < y or y <= x = 1; method h(x: Fault, y) = 1;");
        whole(1, 3, 1, -1);
        for (int i = 13; i < 18; i++) {
            CHECK.tell("kind K" + i + ";");
        }
        // ten of 20 makeable kinds ask, so there are 200 rows that ask
        CHECK.tell("call exact(2) best left; method exact(x, y) = 1;");
        for (int i = 0; i < 10; i++) {
            CHECK.tell("method exact(x: K" + i + ", y) if x < y = 1;");
        }
        whole(0, -1, -1, -1);
        CHECK.tell("method exact(x: Int, y: Int) if x < y = 1;");
        whole(-1, -1, -1, -1);
        CHECK.house().drop(CHECK.house().count(2));
        whole(0, -1, -1, -1);
        for (int i = 18; i < 21; i++) {
            CHECK.tell("kind K" + i + ";");
        }
        CHECK.tell("call k(3) best left; method k(x, y, z) = 1; method k(x: K20, y: K20, z: K20) if x < y = 1;");
        told(4, 2, 2, 23 * 23 * 23, 8, 3, 0);
        CHECK.due("kinds", CHECK.house().count(0), 24);
    }

    /** Sets of methods are kept in two parts: these reach into the second one. */
    private static void manyMethods() {
        CHECK.anew();
        StringBuilder text = new StringBuilder("call f(1) sum left; call g(2) best left; kind A; kind B < A; kind C < B;");
        for (int i = 0; i < 100; i++) {
            text.append("method f(x: ").append(i < 60 ? "Int" : i < 70 ? "A" : i < 80 ? "B" : "C").append(" == ").append(i % 30)
                .append(") ").append(i < 30 ? "before" : "").append(" = 1;");
        }
        CHECK.tell(text.toString());
        // Int, Fault, A, B and C have 60, 0, 10, 20 and 40 methods
        told(0, 100, 5, 5, 5, 1, -1);
        CHECK.gives("f(7)", 1);
        CHECK.ran(8, 38);
        // methods 61 to 70 ask A of 0 to 9, 81 to 100 ask C of 20 to 29 and 0 to 9
        CHECK.gives("f(C(5))", 2);
        CHECK.ran(96, 66);
        CHECK.tell("method g(x: A, y) = 1; method g(x: B, y: A) = 2; method g(x, y) = 3; method g(x, y: C) = 4;");
        // groups are Int and Fault, A, B and C by the first place, Int and Fault, A and B, C by the second
        told(1, 4, 6, 25, 9, 4, 0);
        CHECK.gives("g(B(1), C(1)) * 1000 + g(B(1), 1) * 100 + g(1, C(1)) * 10 + g(1, 1)", 2143);
        // whole halves of the sets fit
        text = new StringBuilder("call h(1) best left;");
        CHECK.anew();
        for (int i = 1; i <= 120; i++) {
            text.append("method h(x == ").append(i).append(") = #x;");
        }
        CHECK.tell(text.toString());
        told(0, 120, 1, 2, 1, 0, -1);
        for (int i : new int[] {1, 2, 63, 64, 65, 66, 119, 120}) {
            CHECK.gives("h(" + i + ")", i);
            CHECK.ran(i);
        }
    }

    private static void droppedOfMany() {
        CHECK.anew();
        CHECK.tell("kind A; kind B < A; kind C < B; call f(1) best left; call g(2) best left;");
        StringBuilder text = new StringBuilder();
        for (int i = 1; i <= 100; i++) {
            text.append("method f(x == ").append(i).append(") = 1;");
        }
        CHECK.tell(text + "method g(x: A, y) = 1; method g(x: B, y: A) = 2; method g(x, y) = 3; method g(x, y: C) = 4;");
        CHECK.gives("g(B(1), C(1))", 2);
        CHECK.due("drop", CHECK.house().drop(102), true);
        CHECK.gives("g(B(1), C(1))", 1);
        told(1, 3, 4, 25, 4, 3, 0);
    }

    private static void wrongCalls() {
        DispatchHouse house = CHECK.anew();
        CHECK.throwing("call of none", IndexOutOfBoundsException.class, () -> house.call(0, 0));
        CHECK.tell("call f(1) best left;");
        CHECK.throwing("call 1", IndexOutOfBoundsException.class, () -> house.call(1, 0));
        CHECK.throwing("call -1", IndexOutOfBoundsException.class, () -> house.call(-1, 0));
        CHECK.throwing("call 0 9", IllegalArgumentException.class, () -> house.call(0, 9));
        CHECK.throwing("call 0 -1", IllegalArgumentException.class, () -> house.call(0, -1));
        CHECK.throwing("call 1 9", IndexOutOfBoundsException.class, () -> house.call(1, 9));
    }
}
