/** Terms 2 and 3 and promises 10 to 12: kinds, rows, what fits, and which is nearer, a test for each sentence. */
public final class EdgesOfKindsTest {
    private static final Check CHECK = new Check();
    private static final int NONE = 0;

    public static void main(String[] args) {
        numbersOfKinds();
        withoutParents();
        belowOf();
        belowThrows();
        rowOfMerge();
        firstSuch();
        rowOfFirst();
        rowOfLast();
        rowsOfTheSameWay();
        longRows();
        rowsOfOthers();
        rowBehindItsEnd();
        rowThrows();
        fits();
        sameKinds();
        takenNumbers();
        muchAsked();
        manyThatAsk();
        theEndsOfInt();
        kindsBeing();
        byEach();
        byLeft();
        byNear();
        byTheWaySet();
        nearerOfItself();
        placesOfTheirCall();
        nearerNoMethod();
        nearerNoKind();
        nearerWrong();
        nearerTwiceWrong();
        CHECK.done();
    }

    private static void numbersOfKinds() {
        DispatchHouse house = CHECK.sentence("KINDS, numbered from 0: Any (bare), Int, Fault, then as they are told");
        CHECK.programWrong(6, "^Any(1)");
        CHECK.run("Int(7)", 0, 1, 7);
        CHECK.run("Fault(7)", 0, 2, 7);
        CHECK.tell("kind Z; kind A;");
        CHECK.tell("kind M;");
        CHECK.run("Z(7)", 0, 3, 7);
        CHECK.run("A(7)", 0, 4, 7);
        CHECK.run("M(7)", 0, 5, 7);
        house.clear();
        CHECK.tell("kind M;");
        CHECK.run("M(7)", 0, 3, 7);
    }

    private static void below(int a, int... all) {
        for (int b = 0; b < CHECK.house().count(0); b++) {
            boolean want = false;
            for (int one : all) {
                want = want || one == b;
            }
            CHECK.due("below " + a + " " + b, CHECK.house().below(a, b), want);
        }
    }

    private static void withoutParents() {
        CHECK.sentence("those without parents have Any");
        CHECK.tell("kind A; kind B bare; kind C < B;");
        below(3, 3, 0);
        below(4, 4, 0);
        below(5, 5, 4, 0);
        row(3, 0, 3, 0);
        row(5, 0, 5, 4, 0);
    }

    private static void belowOf() {
        CHECK.sentence("BELOW: itself, its parents, what is BELOW of them");
        CHECK.tell("kind A; kind B < A; kind C < B; kind D < Int; kind E < C, D;");
        below(0, 0);
        below(1, 1, 0);
        below(2, 2, 0);
        below(3, 3, 0);
        below(4, 4, 3, 0);
        below(5, 5, 4, 3, 0);
        below(6, 6, 1, 0);
        below(7, 7, 5, 4, 3, 6, 1, 0);
    }

    private static void belowThrows() {
        DispatchHouse house = CHECK.sentence("Promise 10: IndexOutOfBoundsException: a or b is none");
        int[][] wrong = {{-1, 0}, {0, -1}, {3, 0}, {0, 3}, {3, 3}, {Integer.MIN_VALUE, 0}, {0, Integer.MAX_VALUE}, {32, 0}, {0, 32}};
        for (int[] one : wrong) {
            CHECK.refused("below " + one[0] + " " + one[1], IndexOutOfBoundsException.class, () -> house.below(one[0], one[1]) ? 1 : 0);
        }
        CHECK.tell("kind A;");
        CHECK.due("below 3 3", house.below(3, 3), true);
        CHECK.throwing("below 4 0", IndexOutOfBoundsException.class, () -> house.below(4, 0) ? 1 : 0);
        CHECK.throwing("below 0 4", IndexOutOfBoundsException.class, () -> house.below(0, 4) ? 1 : 0);
        house.clear();
        CHECK.throwing("below 3 0 behind clear", IndexOutOfBoundsException.class, () -> house.below(3, 0) ? 1 : 0);
    }

    private static void row(int k, int way, int... want) {
        for (int i = 0; i <= want.length; i++) {
            int due = i < want.length ? want[i] : -1;
            CHECK.due("row " + k + " by " + way + " at " + i, CHECK.house().row(k, way, i), due);
        }
    }

    private static void rowOfMerge() {
        CHECK.sentence("WAY 0: the kind, and then the merge of its parents' ROWS and of the row of its parents");
        for (int k = 0; k < 3; k++) {
            row(k, 0, k == 0 ? new int[] {0} : new int[] {k, 0});
        }
        // 3 A, 4 B < A, 5 C < A, 6 D < B, C, 7 E < D, A, 8 F < Int, C
        CHECK.tell("kind A; kind B < A; kind C < A; kind D < B, C; kind E < D, A; kind F < Int, C;");
        row(6, 0, 6, 4, 5, 3, 0);
        row(7, 0, 7, 6, 4, 5, 3, 0);
        row(8, 0, 8, 1, 5, 3, 0);
    }

    private static void firstSuch() {
        CHECK.sentence("the first kind that is first in one of these (the first such) and in no other one but first");
        // 3 O, 4 A, 5 B, 6 C, 7 D, 8 E, 9 K1 < A B C, 10 K2 < D B E, 11 K3 < D A, 12 Z < K1 K2 K3
        CHECK.tell("kind O; kind A < O; kind B < O; kind C < O; kind D < O; kind E < O;"
            + "kind K1 < A, B, C; kind K2 < D, B, E; kind K3 < D, A; kind Z < K1, K2, K3;");
        row(12, 0, 12, 9, 10, 11, 7, 4, 5, 6, 8, 3, 0);
        // the row of the parents counts too: without it the row of 14 Q < Int, P would begin with 14 1 13
        CHECK.tell("kind P < Int; kind Q < P, Int;");
        row(14, 0, 14, 13, 1, 0);
        CHECK.tellWrong(5, "kind ^R < Int, P;");
    }

    private static void rowOfFirst() {
        CHECK.sentence("WAY 1: the kind, its parents' ROWS one behind the other, each kind where it comes first");
        // 3 A, 4 B < A, 5 C < A, 6 D < B, C, 7 E < Int, C, D
        CHECK.tell("kind A; kind B < A; kind C < A; kind D < B, C; kind E < Int, D, C;");
        row(0, 1, 0);
        row(2, 1, 2, 0);
        row(6, 1, 6, 4, 3, 0, 5);
        row(7, 1, 7, 1, 0, 6, 4, 3, 5);
    }

    private static void rowOfLast() {
        CHECK.sentence("WAY 2: likewise, each where it comes last");
        CHECK.tell("kind A; kind B < A; kind C < A; kind D < B, C; kind E < Int, D, C;");
        row(0, 2, 0);
        row(2, 2, 2, 0);
        row(6, 2, 6, 4, 5, 3, 0);
        row(7, 2, 7, 1, 6, 4, 5, 3, 0);
        // 8 F < D, B, Int: the rows 6 4 5 3 0, 4 3 0, 1 0
        CHECK.tell("kind F < D, B, Int;");
        row(8, 2, 8, 6, 5, 4, 3, 1, 0);
        row(8, 1, 8, 6, 4, 3, 0, 5, 1);
        row(8, 0, 8, 6, 4, 5, 3, 1, 0);
    }

    private static void rowsOfTheSameWay() {
        CHECK.sentence("(WAYS 1 and 2 by ROWS of the same WAY.)");
        // 3 A, 4 B < A, 5 C < A, 6 D < B, C: by way 1 6 4 3 0 5, so 7 E < D, Int is 7 6 4 3 0 5 1
        CHECK.tell("kind A; kind B < A; kind C < A; kind D < B, C; kind E < D, Int; kind F < D, B; kind G < F, Fault;");
        row(7, 1, 7, 6, 4, 3, 0, 5, 1);
        row(7, 2, 7, 6, 4, 5, 3, 1, 0);
        // 8 F < D, B by way 2 is 8 6 5 4 3 0, so 9 G < F, Fault is 9 8 6 5 4 3 2 0; by way 0 it is 9 8 6 4 5 3 2 0
        row(9, 2, 9, 8, 6, 5, 4, 3, 2, 0);
        row(9, 0, 9, 8, 6, 4, 5, 3, 2, 0);
        row(9, 1, 9, 8, 6, 4, 3, 0, 5, 2);
    }

    private static void longRows() {
        DispatchHouse house = CHECK.sentence("ROWS of a kind (the longest: 24 kinds)");
        StringBuilder chain = new StringBuilder("kind K3 < Int, Fault;");
        for (int i = 4; i < 24; i++) {
            chain.append("kind K").append(i).append(" < K").append(i - 1).append(";");
        }
        CHECK.tell(chain.toString());
        for (int way = 0; way < 3; way++) {
            for (int i = 0; i < 21; i++) {
                CHECK.due("row 23 by " + way + " at " + i, house.row(23, way, i), 23 - i);
            }
            CHECK.due("row 23 by " + way + " at 21", house.row(23, way, 21), 1);
            CHECK.due("row 23 by " + way + " at 22", house.row(23, way, 22), way == 1 ? 0 : 2);
            CHECK.due("row 23 by " + way + " at 23", house.row(23, way, 23), way == 1 ? 2 : 0);
            CHECK.due("row 23 by " + way + " at 24", house.row(23, way, 24), -1);
        }
        CHECK.anew();
        StringBuilder wide = new StringBuilder();
        for (int i = 3; i < 23; i++) {
            wide.append("kind K").append(i).append(";");
        }
        wide.append("kind W < Int, Fault");
        for (int i = 3; i < 23; i++) {
            wide.append(", K").append(i);
        }
        CHECK.tell(wide + ";");
        CHECK.due("the first parent", CHECK.house().row(23, 0, 1), 1);
        CHECK.due("the last parent", CHECK.house().row(23, 0, 22), 22);
        CHECK.due("Any", CHECK.house().row(23, 0, 23), 0);
        CHECK.due("Any by way 1", CHECK.house().row(23, 1, 2), 0);
        CHECK.due("behind", CHECK.house().row(23, 1, 24), -1);
        CHECK.anew();
        CHECK.tell(wide + ", Any;");
        for (int way = 0; way < 3; way++) {
            CHECK.due("the kind", CHECK.house().row(23, way, 0), 23);
            CHECK.due("the first parent", CHECK.house().row(23, way, 1), 1);
            CHECK.due("the last of 24", CHECK.house().row(23, way, 23), way == 1 ? 22 : 0);
            CHECK.due("behind", CHECK.house().row(23, way, 24), -1);
        }
    }

    private static void rowsOfOthers() {
        DispatchHouse house = CHECK.sentence("ROWS of a kind (what was told before of others does not matter)");
        // 3 A, 4 B, 5 C < A, B, Int, Fault, 6 D < A, 7 E
        CHECK.tell("kind A; kind B; kind C < A, B, Int, Fault; kind D < A; kind E; kind F < E, D;");
        for (int way = 0; way < 3; way++) {
            row(6, way, 6, 3, 0);
            row(7, way, 7, 0);
        }
        row(8, 0, 8, 7, 6, 3, 0);
        row(8, 1, 8, 7, 0, 6, 3);
        row(8, 2, 8, 7, 6, 3, 0);
        CHECK.tellWrong(3, "kind G < A, B, C, D, ^Q;");
        CHECK.tell("kind G < Int;");
        for (int way = 0; way < 3; way++) {
            row(9, way, 9, 1, 0);
        }
        house.clear();
        CHECK.tell("kind A; kind B < A; kind C < B; kind D < C;");
        house.clear();
        CHECK.tell("kind P; kind Q; kind R; kind S; kind T < R, Q; kind U < S, T;");
        for (int way = 0; way < 3; way++) {
            for (int k = 3; k < 7; k++) {
                row(k, way, k, 0);
            }
        }
        row(7, 0, 7, 5, 4, 0);
        row(7, 1, 7, 5, 0, 4);
        row(7, 2, 7, 5, 4, 0);
        row(8, 0, 8, 6, 7, 5, 4, 0);
        row(8, 1, 8, 6, 0, 7, 5, 4);
        row(8, 2, 8, 6, 7, 5, 4, 0);
    }

    private static void rowBehindItsEnd() {
        DispatchHouse house = CHECK.sentence("Promise 11: The i-th kind, from 0, of kind k's ROW by a WAY; -1 behind its end");
        CHECK.tell("kind A; kind B < A, Int;");
        int[] all = {4, 3, 1, 0};
        for (int i = 0; i < 4; i++) {
            CHECK.due("row 4 at " + i, house.row(4, 0, i), all[i]);
        }
        for (int i : new int[] {4, 5, 23, 24, 100, Integer.MAX_VALUE}) {
            for (int way = 0; way < 3; way++) {
                CHECK.due("row 4 at " + i, house.row(4, way, i), -1);
                CHECK.due("row 0 at " + i, house.row(0, way, i), -1);
            }
        }
        CHECK.due("row 0 at 1", house.row(0, 0, 1), -1);
        // set() does not matter here
        house.set(1, 1);
        CHECK.due("row 4 at 2 by way 0", house.row(4, 0, 2), 1);
        CHECK.due("row 4 at 2 by way 1", house.row(4, 1, 2), 0);
    }

    private static void rowThrows() {
        CHECK.sentence("Promise 11: IndexOutOfBoundsException: k is none, i is below 0. IllegalArgumentException: way");
        int[][] none = {{-1, 0, 0}, {3, 0, 0}, {Integer.MAX_VALUE, 0, 0}, {Integer.MIN_VALUE, 0, 0}, {0, 0, -1}, {0, 0, Integer.MIN_VALUE},
            {3, 3, 0}, {0, -1, -1}, {-1, 9, -9}};
        for (int[] one : none) {
            DispatchHouse fresh = CHECK.anew();
            CHECK.refused("row " + one[0] + " " + one[1] + " " + one[2], IndexOutOfBoundsException.class, () -> fresh.row(one[0], one[1], one[2]));
        }
        for (int way : new int[] {-1, 3, 4, Integer.MIN_VALUE, Integer.MAX_VALUE}) {
            DispatchHouse fresh = CHECK.anew();
            CHECK.refused("row by way " + way, IllegalArgumentException.class, () -> fresh.row(0, way, 0));
            CHECK.refused("row by way " + way + " behind its end", IllegalArgumentException.class, () -> fresh.row(2, way, 99));
        }
        DispatchHouse house = CHECK.anew();
        CHECK.due("row by way 2", house.row(2, 2, 0), 2);
        CHECK.tell("kind A;");
        CHECK.due("row of 3", house.row(3, 0, 0), 3);
        CHECK.throwing("row of 4", IndexOutOfBoundsException.class, () -> house.row(4, 0, 0));
    }

    private static void fits() {
        DispatchHouse house = CHECK.sentence("One FITS kinds k if at each place k is BELOW its SPEC's kind (Any if none is said)");
        CHECK.tell("kind A; kind B < A; call f(2) best left; method f(x, y) = 0; method f(x: A, y) = 1; method f(x, y: B) = 2;"
            + "method f(x: Any, y: Any) if 1 < 0 = 3;");
        CHECK.gives("f(1, 1)", 0);
        CHECK.gives("f(A(1), 1)", 1);
        CHECK.gives("f(B(1), 1)", 1);
        CHECK.gives("f(1, B(1))", 2);
        CHECK.gives("f(1, A(1))", 0);
        CHECK.gives("f(Fault(1), Fault(1))", 0);
        CHECK.due("a bare kind fits Any", house.nearer(1, 4, 0, 0, 0), 1);
        CHECK.throwing("Any is not below A", IllegalArgumentException.class, () -> house.nearer(2, 1, 0, 0, 0));
        CHECK.throwing("A is not below B", IllegalArgumentException.class, () -> house.nearer(3, 1, 3, 3, 0));
    }

    private static void nearer(int want, int m, int n, int a, int b, int c) {
        String what = "nearer " + m + " " + n + " for " + a + " " + b + " " + c;
        CHECK.due(what, CHECK.house().nearer(m, n, a, b, c), want);
        CHECK.due(what + " the other way round", CHECK.house().nearer(n, m, a, b, c), -want);
    }

    /** Two methods with these SPECS and TEST, of a call of two places, both arguments being of kind 3. */
    private static void asks(int want, String one, String other) {
        CHECK.anew();
        CHECK.tell("kind K; kind J < K; call f(2) best left;");
        CHECK.tell("method f(" + one + " = 1;");
        CHECK.tell("method f(" + other + " = 1;");
        nearer(want, 1, 2, 3, 3, NONE);
    }

    private static void sameKinds() {
        CHECK.sentence("if their SPECS' kinds are the same at all places: the one that ASKS MORE");
        asks(-1, "x: K, y) if x < 1", "x: K, y) if x < 2");
        asks(-1, "x: K, y: Any) if x < 1", "x: K, y) if x < 2");
        // where they differ at one place what is asked does not matter
        asks(1, "x, y) if x < 1", "x: K, y) if x < 2");
        asks(1, "x, y == 1)", "x, y: K)");
    }

    private static void takenNumbers() {
        CHECK.sentence("whatever numbers its == and TEST take, those of the other one take too, and not the other way round");
        asks(0, "x, y)", "x, y) if x < y or y <= x");
        asks(0, "x, y) if x < 1", "x, y) if x <= 0");
        asks(0, "x, y) if x < 1", "x, y) if 0 < x");
        asks(0, "x, y) if x < 2", "x, y) if 0 < x");
        asks(-1, "x, y) if x < 2 and 0 < x", "x, y) if x < 3 and 0 < x");
        asks(0, "x, y) if x < 2 and 0 < x", "x == 1, y)");
        asks(-1, "x == 1, y)", "x, y)");
        asks(0, "x == 1, y)", "x == 2, y)");
        asks(0, "x == 1, y)", "x, y == 1)");
        asks(-1, "x == 1, y == 1)", "x, y == 1)");
        asks(-1, "x == 1, y)", "x, y) if 0 < x");
        asks(0, "x == 0, y)", "x, y) if 0 < x");
        asks(-1, "x, y) if not x == 1", "x, y)");
        asks(-1, "x, y) if x == y", "x, y) if x <= y");
        asks(-1, "x, y) if x < y", "x, y) if x <= y");
        asks(0, "x, y) if x < y", "x, y) if not y <= x");
        asks(-1, "x, y) if x < y and y < 3", "x, y) if x < 2");
        asks(0, "x, y) if x < y and y < 3", "x, y) if x < 1");
        // one that takes no numbers at all asks more than one that takes some, and as much as another such
        asks(-1, "x, y) if x < x", "x == 1, y)");
        asks(-1, "x == 1, y) if x == 2", "x == 1, y) if y == 2");
        asks(0, "x == 1, y) if x == 2", "x, y) if y < y");
        asks(0, "x == 1, y)", "x == 1, y) if x == 1");
        asks(1, "x == 1, y)", "x == 1, y) if y == 1");
        asks(-1, "x, y == 3)", "x, y) if 2 < y");
        asks(0, "x, y == 3)", "x, y) if 3 < y");
        asks(-1, "x == 2, y == 3)", "x, y) if x + 1 == y");
        asks(0, "x == 3, y == 2)", "x, y) if x + 1 == y");
    }

    private static void muchAsked() {
        CHECK.sentence("ASKS MORE: its == and TEST (three == and six comparisons each)");
        CHECK.tell("kind A; call f(3) best left;");
        String six = " if x < y and y < z and not x == 5 and z <= 30 and x is A and z ";
        CHECK.tell("method f(x == 10, y == 20, z == 30)" + six + "<= 30 = 1;");
        CHECK.tell("method f(x == 10, y == 20, z == 30)" + six + "< 30 = 1;");
        CHECK.tell("method f(x == 10, y == 20, z == 30)" + six + "== 30 = 1;");
        CHECK.tell("method f(x, y, z)" + six + "== 30 = 1;");
        CHECK.tell("method f(x, y, z)" + six + "<= 30 = 1;");
        CHECK.tell("method f(x, y, z == 30)" + six + "<= 30 = 1;");
        nearer(1, 1, 2, 3, 3, 3);
        nearer(0, 1, 3, 3, 3, 3);
        nearer(-1, 2, 3, 3, 3, 3);
        nearer(-1, 3, 4, 3, 3, 3);
        nearer(-1, 4, 5, 3, 3, 3);
        nearer(0, 4, 6, 3, 3, 3);
        nearer(0, 4, 5, 1, 3, 3);
        nearer(0, 1, 2, 1, 3, 3);
        // as many cuts as there can be: each == is two
        String equals = "(x == 1, y == 2, z == 3) if x == 1 and y == 2 and z == 3 and x == y - 1 and y + 1 == z and z == ";
        CHECK.tell("method f" + equals + "x + 2 = 1; method f" + equals + "x + 3 = 1; method f" + equals + "y + 1 = 1;");
        nearer(1, 7, 8, 3, 3, 3);
        nearer(0, 7, 9, 3, 3, 3);
        nearer(-1, 8, 9, 3, 3, 3);
        // is as the last of six
        CHECK.tell("kind B < A; call g(1) best left;");
        for (int i = 1; i <= 3; i++) {
            CHECK.tell("method g(x) if x<9 and x<8 and x<7 and x<6 and x<" + i + " and x is " + (i == 2 ? "B" : "A") + " = 1;");
        }
        for (int round = 0; round < 2; round++) {
            nearer(-1, 10, 11, 4, 0, 0);
            nearer(-1, 11, 12, 4, 0, 0);
            nearer(1, 10, 11, 3, 0, 0);
            nearer(-1, 11, 12, 3, 0, 0);
            nearer(-1, 10, 12, 3, 0, 0);
            nearer(-1, 10, 12, 4, 0, 0);
            nearer(0, 10, 11, 1, 0, 0);
            nearer(0, 11, 12, 1, 0, 0);
            nearer(0, 10, 12, 1, 0, 0);
        }
    }

    private static void manyThatAsk() {
        CHECK.sentence("ASKS MORE (of methods whose numbers are great)");
        StringBuilder text = new StringBuilder("call f(1) best left;");
        for (int i = 1; i <= 120; i++) {
            text.append("method f(x)if x<").append(i % 2 == 0 ? i : 200 - i).append("=1;");
        }
        CHECK.tell(text.toString());
        int[] all = {1, 2, 3, 63, 64, 65, 66, 67, 119, 120};
        for (int m : all) {
            for (int n : all) {
                int one = m % 2 == 0 ? m : 200 - m;
                int other = n % 2 == 0 ? n : 200 - n;
                CHECK.due("nearer " + m + " " + n, CHECK.house().nearer(m, n, 1, 0, 0), Integer.compare(one, other));
            }
        }
    }

    private static void theEndsOfInt() {
        CHECK.sentence("(ints, kinds being k); TERMS are numbers of arguments, with a number more or less, exact");
        asks(0, "x, y)", "x, y) if x <= 2147483647");
        asks(1, "x, y)", "x, y) if x < 2147483647");
        asks(0, "x, y)", "x, y) if x < x + 1");
        asks(0, "x, y) if 2147483647 < x", "x, y) if x < x");
        asks(0, "x, y) if 2147483646 < x", "x == 2147483647, y)");
        asks(0, "x, y) if x + 1 < 2147483647", "x, y) if x < 2147483646");
        asks(0, "x, y)", "x, y) if -2147483647 <= x + 1");
        asks(1, "x, y)", "x, y) if -2147483647 <= x");
        asks(0, "x, y) if x < -2147483647", "x, y) if x + 1 == -2147483647");
        // x less y may be 4294967294 in two ways, and 4294967295 in one
        asks(0, "x, y) if x - 2147483647 == y + 2147483647",
            "x, y) if x == 2147483647 and y == -2147483647 or x == 2147483646 and y + 1 == -2147483647");
        asks(1, "x, y) if x - 2147483647 == y + 2147483647", "x, y) if x == 2147483647 and y == -2147483647");
        asks(0, "x, y) if y + 2147483647 < x - 2147483647", "x == 2147483647, y) if y < -2147483647");
    }

    private static void kindsBeing() {
        CHECK.sentence("kinds being k (x is K in a TEST)");
        CHECK.tell("kind A; kind B < A; call f(1) best left; method f(x) if x is A = 1; method f(x) if x is B = 1; method f(x) = 1;"
            + "method f(x) if not x is A and x < 1 = 1;");
        nearer(0, 1, 2, 4, NONE, NONE);
        nearer(1, 1, 2, 3, NONE, NONE);
        nearer(0, 1, 2, 1, NONE, NONE);
        nearer(0, 1, 3, 3, NONE, NONE);
        nearer(-1, 1, 3, 1, NONE, NONE);
        nearer(-1, 4, 1, 3, NONE, NONE);
        nearer(1, 4, 1, 1, NONE, NONE);
        // which of the tests is the one that holds matters, for each kind anew
        CHECK.tell("call g(1) best left; method g(x) if x < 1 and x is A = 1; method g(x) if x < 2 and x is B = 1; method g(x) if x is B or x < 1 and x is A = 1;");
        for (int round = 0; round < 2; round++) {
            nearer(-1, 5, 6, 4, NONE, NONE);
            nearer(1, 5, 6, 3, NONE, NONE);
            nearer(0, 5, 6, 1, NONE, NONE);
            nearer(-1, 5, 7, 4, NONE, NONE);
            nearer(0, 5, 7, 3, NONE, NONE);
            nearer(-1, 6, 7, 3, NONE, NONE);
            nearer(-1, 6, 7, 4, NONE, NONE);
            nearer(0, 6, 7, 1, NONE, NONE);
        }
    }

    private static void byEach() {
        CHECK.sentence("each: the one whose kind is at each place BELOW that of the other one");
        CHECK.tell("kind A; kind B < A; kind C < B, Int; call f(2) best each; method f(x: A, y: A) = 1; method f(x: B, y: A) = 1;"
            + "method f(x: A, y: B) = 1; method f(x: B, y: B) = 1; method f(x: Int, y: B) = 1; method f(x, y) = 1;");
        nearer(1, 1, 2, 5, 5, NONE);
        nearer(0, 2, 3, 5, 5, NONE);
        nearer(1, 2, 4, 5, 5, NONE);
        nearer(0, 4, 5, 5, 5, NONE);
        nearer(0, 1, 5, 5, 5, NONE);
        nearer(1, 6, 5, 5, 5, NONE);
    }

    private static void byLeft() {
        CHECK.sentence("left: at the first place where they differ, the one whose kind comes first in the ROW of k there");
        // 3 A, 4 B < A, 5 C < B, Int with the row 5 4 3 1 0
        CHECK.tell("kind A; kind B < A; kind C < B, Int; call f(3) best left; method f(x: A, y, z) = 1; method f(x: Int, y: C, z: C) = 1;"
            + "method f(x: A, y, z: C) = 1; method f(x: A, y: Int, z) = 1;");
        nearer(-1, 1, 2, 5, 5, 5);
        nearer(1, 1, 3, 5, 5, 5);
        nearer(-1, 4, 3, 5, 5, 5);
        nearer(-1, 4, 1, 5, 5, 5);
    }

    private static void byNear() {
        CHECK.sentence("near: the one for which the sum of the places (from 0) of its kinds in the ROWS of k is less");
        // 3 A, 4 B < A, 5 C < B: the rows 5 4 3 0, 4 3 0, 1 0
        CHECK.tell("kind A; kind B < A; kind C < B; call f(3) best near; method f(x: A, y: A, z) = 1; method f(x: C, y, z) = 1;"
            + "method f(x: B, y: C, z) = 1; method f(x, y, z: Int) = 1; method f(x: A, y: B, z) = 1;");
        // sums for 5, 5, 1: 2 + 2 + 1, 0 + 3 + 1, 1 + 0 + 1, 3 + 3 + 0, 2 + 1 + 1
        nearer(-1, 3, 2, 5, 5, 1);
        nearer(0, 2, 5, 5, 5, 1);
        nearer(1, 4, 1, 5, 5, 1);
        nearer(-1, 5, 1, 5, 5, 1);
        nearer(1, 1, 2, 5, 5, 1);
        // sums for 5, 4, 1: method 2 has 0 + 2 + 1, method 5 has 2 + 0 + 1; for 4, 3, 1: method 1 has 1 + 0 + 1, method 4 has 2 + 1 + 0
        nearer(0, 2, 5, 5, 4, 1);
        nearer(-1, 1, 4, 4, 3, 1);
    }

    private static void byTheWaySet() {
        DispatchHouse house = CHECK.sentence("(ROWS by the WAY that set() says.)");
        // 3 A, 4 B < A, 5 C < A, 6 D < B, C, 7 E < D, B: rows 7 6 4 5 3 0, 7 6 4 3 0 5, 7 6 5 4 3 0
        CHECK.tell("kind A; kind B < A; kind C < A; kind D < B, C; kind E < D, B; call f(1) best left; method f(x: B) = 4;"
            + "method f(x: C) = 5; method f(x: A) = 3; call g(1) best near; method g(x: B) = 4; method g(x: C) = 5; method g(x: A) = 3;");
        int[][] want = {{-1, -1}, {-1, 1}, {1, -1}};
        int[] chosen = {4, 4, 5};
        for (int way : new int[] {0, 1, 2, 0}) {
            house.set(1, way);
            for (int call = 0; call < 2; call++) {
                nearer(want[way][0], 3 * call + 1, 3 * call + 2, 7, NONE, NONE);
                nearer(want[way][1], 3 * call + 2, 3 * call + 3, 7, NONE, NONE);
            }
            CHECK.gives("f(E(1))", chosen[way]);
            CHECK.gives("g(E(1))", chosen[way]);
        }
    }

    private static void nearerOfItself() {
        CHECK.sentence("Promise 12: -1, 1 or 0 as method m is NEARER than n for these kinds, n than m, or neither");
        CHECK.tell("call f(1) best left; method f(x) = 1; method f(x: Int) = 1; method f(x) around = 1;");
        CHECK.due("nearer", CHECK.house().nearer(2, 1, 1, NONE, NONE), -1);
        CHECK.due("nearer", CHECK.house().nearer(1, 2, 1, NONE, NONE), 1);
        CHECK.due("nearer of one and itself", CHECK.house().nearer(1, 1, 1, NONE, NONE), 0);
        CHECK.due("nearer of methods of two roles", CHECK.house().nearer(2, 3, 1, NONE, NONE), -1);
        CHECK.due("nearer of methods of two roles that ask the same", CHECK.house().nearer(1, 3, 1, NONE, NONE), 0);
    }

    private static void placesOfTheirCall() {
        DispatchHouse house = CHECK.sentence("Promise 12: these kinds (of as many places as their call has)");
        CHECK.tell("call f(1) best left; method f(x) = 1; method f(x: Int) = 1; call g(2) best left; method g(x, y) = 1;"
            + "method g(x, y: Int) = 1; call h(3) best left; method h(x, y, z) = 1; method h(x, y, z: Int) = 1;");
        CHECK.due("one place", house.nearer(1, 2, 1, -1, 99), 1);
        CHECK.due("one place", house.nearer(1, 2, 1, Integer.MIN_VALUE, Integer.MAX_VALUE), 1);
        CHECK.due("two places", house.nearer(3, 4, 1, 1, -1), 1);
        CHECK.throwing("two places", IndexOutOfBoundsException.class, () -> house.nearer(3, 4, 1, -1, 1));
        CHECK.due("three places", house.nearer(5, 6, 1, 1, 1), 1);
        CHECK.throwing("three places", IndexOutOfBoundsException.class, () -> house.nearer(5, 6, 1, 1, -1));
        CHECK.throwing("three places", IllegalArgumentException.class, () -> house.nearer(5, 6, 1, 1, 2));
    }

    private static void nearerNoMethod() {
        DispatchHouse house = CHECK.sentence("Promise 12: IndexOutOfBoundsException: a method that is none or gone");
        CHECK.throwing("nearer in a new house", IndexOutOfBoundsException.class, () -> house.nearer(1, 1, 0, 0, 0));
        CHECK.tell("call f(1) best left; method f(x) = 1; method f(x: Int) = 1; method f(x: Int == 1) = 1;");
        CHECK.refused("nearer 4 1", IndexOutOfBoundsException.class, () -> house.nearer(4, 1, 1, 0, 0));
        for (int m : new int[] {0, -1, 4, 120, 121, 122, Integer.MAX_VALUE, Integer.MIN_VALUE}) {
            CHECK.throwing("nearer " + m + " 1", IndexOutOfBoundsException.class, () -> house.nearer(m, 1, 1, 0, 0));
            CHECK.throwing("nearer 1 " + m, IndexOutOfBoundsException.class, () -> house.nearer(1, m, 1, 0, 0));
        }
        CHECK.due("nearer 3 2", house.nearer(3, 2, 1, 0, 0), -1);
        house.drop(3);
        CHECK.refused("nearer 3 2", IndexOutOfBoundsException.class, () -> house.nearer(3, 2, 1, 0, 0));
        CHECK.refused("nearer 2 3", IndexOutOfBoundsException.class, () -> house.nearer(2, 3, 1, 0, 0));
        CHECK.due("nearer 2 1", house.nearer(2, 1, 1, 0, 0), -1);
        house.clear();
        CHECK.throwing("nearer behind clear", IndexOutOfBoundsException.class, () -> house.nearer(1, 2, 1, 0, 0));
    }

    private static void nearerNoKind() {
        DispatchHouse house = CHECK.sentence("Promise 12: IndexOutOfBoundsException: a kind that is none");
        CHECK.tell("call f(3) best left; method f(x, y, z) = 1; method f(x, y, z: Int) = 1;");
        CHECK.refused("nearer for 3", IndexOutOfBoundsException.class, () -> house.nearer(1, 2, 1, 1, 3));
        for (int k : new int[] {-1, 3, 24, Integer.MAX_VALUE, Integer.MIN_VALUE}) {
            CHECK.throwing("nearer for " + k, IndexOutOfBoundsException.class, () -> house.nearer(1, 2, k, 1, 1));
            CHECK.throwing("nearer for " + k, IndexOutOfBoundsException.class, () -> house.nearer(1, 2, 1, k, 1));
            CHECK.throwing("nearer for " + k, IndexOutOfBoundsException.class, () -> house.nearer(1, 2, 1, 1, k));
        }
        CHECK.tell("kind A;");
        CHECK.due("nearer for 3", house.nearer(1, 2, 3, 3, 1), 1);
        CHECK.due("nearer for bare kinds", house.nearer(1, 2, 0, 0, 1), 1);
    }

    private static void nearerWrong() {
        DispatchHouse house = CHECK.sentence("Promise 12: IllegalArgumentException: not of one call, or one does not FIT");
        CHECK.tell("kind A; call f(1) best left; method f(x) = 1; method f(x: A) = 1; call g(1) best left; method g(x) = 1;");
        CHECK.refused("of two calls", IllegalArgumentException.class, () -> house.nearer(1, 3, 1, 0, 0));
        CHECK.refused("of two calls", IllegalArgumentException.class, () -> house.nearer(3, 1, 1, 0, 0));
        CHECK.refused("the second does not fit", IllegalArgumentException.class, () -> house.nearer(1, 2, 1, 0, 0));
        CHECK.refused("the first does not fit", IllegalArgumentException.class, () -> house.nearer(2, 1, 1, 0, 0));
        CHECK.refused("both do not fit", IllegalArgumentException.class, () -> house.nearer(2, 2, 1, 0, 0));
        CHECK.due("both fit", house.nearer(2, 1, 3, 0, 0), -1);
    }

    private static void nearerTwiceWrong() {
        DispatchHouse house = CHECK.sentence("Of several exceptions the first that fits in the order of the heading is thrown (nearer)");
        CHECK.tell("kind A; call f(1) best left; method f(x) = 1; method f(x: A) = 1; call g(1) best left; method g(x) = 1;");
        CHECK.throwing("of two calls, no kind", IndexOutOfBoundsException.class, () -> house.nearer(1, 3, 9, 0, 0));
        CHECK.throwing("of two calls, no kind", IndexOutOfBoundsException.class, () -> house.nearer(3, 1, -1, 0, 0));
        CHECK.throwing("does not fit, no method", IndexOutOfBoundsException.class, () -> house.nearer(2, 9, 1, 0, 0));
        CHECK.throwing("does not fit, no method", IndexOutOfBoundsException.class, () -> house.nearer(0, 2, 1, 0, 0));
    }
}
