/** Term 5 and promise 13: lists, tables, trees and whether a call is whole, a test for each sentence. */
public final class EdgesOfListsTest {
    private static final Check CHECK = new Check();

    public static void main(String[] args) {
        makeable();
        listsOfThoseThatFit();
        noMethodsAtAll();
        trying();
        table();
        pressed();
        treeOfTheWhole();
        noNodeForIt();
        alikeIsOne();
        fewestNodes();
        firstByPlaces();
        choosingGivesTheList();
        byTheWorldAsItIs();
        wholeIsZero();
        whateverNumbers();
        wholeIsOne();
        wholeIsTwo();
        bestAlone();
        plainWithoutLayers();
        moreThanEight();
        eightAtOnce();
        rowBefore();
        behindTheTwoHundredth();
        passedOverAlone();
        kindsOfTheRow();
        askedAlone();
        manyLists();
        manyMethods();
        manyMethodsAnew();
        methodsOfACall();
        callThrows();
        CHECK.done();
    }

    private static void told(int c, int... want) {
        for (int what = 0; what < want.length; what++) {
            CHECK.due("call " + c + " " + what, CHECK.house().call(c, what), want[what]);
        }
    }

    /** WHOLE of the latest call, and the kinds of its row. */
    private static void whole(int... want) {
        int c = CHECK.house().count(1) - 1;
        for (int i = 0; i < 4; i++) {
            CHECK.due("call " + c + " " + (5 + i), CHECK.house().call(c, 5 + i), i < want.length ? want[i] : -1);
        }
    }

    private static void looks(String program, int... want) {
        for (int choosing = 0; choosing < 4; choosing++) {
            CHECK.house().set(0, choosing);
            CHECK.program(program);
            CHECK.house().run();
            CHECK.due("LOOKS by " + choosing + " of " + program, CHECK.house().told(6), want[choosing]);
        }
    }

    private static void makeable() {
        CHECK.sentence("MAKEABLE are kinds that are not bare, by numbers");
        CHECK.tell("call f(1) best left; call g(2) best left; call h(3) best left;");
        told(0, 0, 1, 2);
        told(1, 0, 1, 4);
        told(2, 0, 1, 8);
        CHECK.tell("kind A bare; kind B < A bare;");
        told(2, 0, 1, 8);
        CHECK.tell("kind C < B; kind D;");
        told(0, 0, 1, 4);
        told(1, 0, 1, 16);
        told(2, 0, 1, 64);
        CHECK.tell("method f(x: Int) = 1; method f(x: Fault) = 1;");
        CHECK.due("the first row that has none is of kind C", CHECK.house().call(0, 6), 5);
        CHECK.tell("method f(x: A) = 1;");
        CHECK.due("then of kind D", CHECK.house().call(0, 6), 6);
    }

    private static void listsOfThoseThatFit() {
        CHECK.sentence("For each row of MAKEABLE kinds of its places: the LIST of its methods that FIT");
        CHECK.tell("kind A; kind B < A; layer L; call f(1) best left; method f(x: A) = 1;");
        told(0, 1, 2);
        CHECK.tell("method f(x: B) around = 1;");
        told(0, 2, 3);
        CHECK.tell("method f(x: Int) in L = 1;");
        told(0, 3, 4);
        CHECK.tell("method f(x: Fault == 1) if x < 0 = 1;");
        told(0, 4, 4);
        CHECK.tell("method f(x) = 1;");
        told(0, 5, 4);
        CHECK.tell("call g(2) best left; method g(x: A, y) = 1; method g(x, y: A) = 1;");
        told(1, 2, 4, 16, 4, 3);
        CHECK.tell("method g(x: B, y: B) = 1;");
        told(1, 3, 5, 16, 9, 4);
    }

    private static void noMethodsAtAll() {
        CHECK.sentence("LISTS of a call without methods (the empty one), its CELLS and NODES");
        CHECK.tell("call f(1) best left; call g(2) sum each; call h(3) least near;");
        told(0, 0, 1, 2, 1, 0, 1, 1, -1, -1);
        told(1, 0, 1, 4, 1, 0, 1, 1, 1, -1);
        told(2, 0, 1, 8, 1, 0, 1, 1, 1, 1);
        looks("try f(1) on x do 0", 0, 1, 2, 1);
        looks("try g(1, 1) on x do 0", 0, 1, 3, 1);
        looks("try h(1, 1, 1) on x do 0", 0, 1, 4, 1);
    }

    private static void trying() {
        CHECK.sentence("0 trying: each method of the call is LOOKED at");
        CHECK.tell("layer L; call f(1) best left; call g(1) best left; method f(x) = 1; method f(x: Int) = 1; method f(x: Fault) = 1;"
            + "method f(x) around = next; method f(x) in L = 1; method g(x) = 1;");
        CHECK.gives("f(0)", 1);
        CHECK.due("LOOKS", CHECK.house().told(6), 5);
        CHECK.gives("f(0) + g(0) + f(Fault(0))", 3);
        CHECK.due("LOOKS", CHECK.house().told(6), 11);
        CHECK.house().drop(3);
        CHECK.gives("f(0)", 1);
        CHECK.due("LOOKS", CHECK.house().told(6), 4);
    }

    private static void table() {
        CHECK.sentence("1 TABLE: a CELL for each row of kinds; 1 LOOK");
        StringBuilder kinds = new StringBuilder();
        for (int i = 0; i < 21; i++) {
            kinds.append("kind K").append(i).append(";");
        }
        CHECK.tell(kinds + "call f(1) best left; call g(2) best left; call h(3) best left; method h(x, y, z: Int) = 1;");
        told(0, 0, 1, 23);
        told(1, 0, 1, 23 * 23);
        told(2, 1, 2, 23 * 23 * 23, 2, 1);
        CHECK.house().set(0, 1);
        CHECK.gives("h(1, K20(1), 1) + h(1, 1, 1)", 2);
        CHECK.due("LOOKS", CHECK.house().told(6), 2);
    }

    private static void pressed() {
        CHECK.sentence("2 PRESSED: kinds with which everything is as with one another (whatever the others are) are a GROUP");
        CHECK.tell("kind A; kind B < A; kind C < A; call f(2) best left; method f(x, y) = 1;");
        told(0, 1, 1, 25, 1);
        CHECK.tell("method f(x: A, y) = 1;");
        told(0, 2, 2, 25, 2);
        CHECK.tell("method f(x: B, y: Int) = 1;");
        // A and C, B, Int and Fault; Int, and the others
        told(0, 3, 3, 25, 6);
        CHECK.tell("kind Z bare; method f(x: C, y: Z) = 1;");
        // it fits no row, so A and C stay a GROUP
        told(0, 4, 3, 25, 6);
        CHECK.tell("kind Y < Z;");
        told(0, 4, 4, 36, 12);
        looks("f(1, 1)", 4, 1, 3, 2);
        CHECK.tell("call h(3) best left; method h(x, y, z: Int) = 1; call k(1) best left; method k(x) = 1;");
        CHECK.house().set(0, 2);
        CHECK.gives("h(1, 1, 1) + k(1)", 2);
        CHECK.due("LOOKS", CHECK.house().told(6), 4 + 2);
    }

    private static void treeOfTheWhole() {
        CHECK.sentence("3 TREE: a NODE for the whole; a NODE asks its place; a LOOK for each NODE that is asked, and 1");
        CHECK.tell("call f(3) best left; method f(x: Int, y: Int, z: Int) = 1;");
        told(0, 1, 2, 8, 8, 3);
        looks("f(1, 1, 1)", 1, 1, 4, 4);
        looks("try f(1, 1, Fault(1)) on x do 1", 1, 1, 4, 4);
        looks("try f(1, Fault(1), 1) on x do 1", 1, 1, 4, 3);
        looks("try f(Fault(1), 1, 1) on x do 1", 1, 1, 4, 2);
        CHECK.tell("call g(3) best left; method g(x: Int, y, z) = 1; method g(x, y: Int, z) = 1; method g(x, y, z: Int) = 1;");
        told(1, 3, 8, 8, 8, 7);
        looks("g(1, 1, 1)", 3, 1, 4, 4);
        looks("g(Fault(1), Fault(1), 1)", 3, 1, 4, 4);
        CHECK.tell("call h(1) best left; method h(x: Int) = 1;");
        told(2, 1, 2, 2, 2, 1);
        looks("h(1)", 1, 1, 2, 2);
    }

    private static void noNodeForIt() {
        CHECK.sentence("where what is left is the same for all kinds of that place no NODE is for it");
        CHECK.tell("kind A; call f(3) best left; method f(x, y, z) = 1;");
        told(0, 1, 1, 27, 1, 0);
        looks("f(1, 1, 1)", 1, 1, 4, 1);
        CHECK.tell("method f(x, y: Int, z) = 1;");
        told(0, 2, 2, 27, 2, 1);
        looks("f(1, 1, 1)", 2, 1, 4, 2);
        looks("f(1, A(1), 1)", 2, 1, 4, 2);
        CHECK.tell("method f(x: A, y: Fault, z) = 1;");
        // by x first: 1 and 2; by y first: 1 and 1
        told(0, 3, 3, 27, 6, 2);
        looks("f(1, 1, 1)", 3, 1, 4, 2);
        looks("f(1, Fault(1), 1)", 3, 1, 4, 3);
        looks("f(1, A(1), 1)", 3, 1, 4, 2);
        // a method that asks all makeable kinds by their parent is no reason to ask
        CHECK.anew();
        CHECK.tell("call g(2) best left; method g(x: Any, y: Any) = 1; method g(x: Any == 1, y) = 1;");
        told(0, 2, 1, 4, 1, 0);
    }

    private static void alikeIsOne() {
        CHECK.sentence("what is left alike (the same places, with the same LISTS) is one");
        CHECK.tell("kind P; kind A < P; kind B < P; call f(2) best left; method f(x: P, y: Int) = 1;");
        told(0, 1, 2, 25, 4, 2);
        CHECK.tell("method f(x: Int, y: Int) = 1;");
        // P, A and B lead to one, Int to another: of these two the LISTS differ
        told(0, 2, 3, 25, 6, 2);
        CHECK.tell("call g(2) best left; method g(x: Int, y: Int) = 1; method g(x: Fault, y: Int) = 1; method g(x: P, y: Fault) = 1;");
        // by x first: 1 and 3; by y first: 1 and 2
        told(1, 3, 4, 25, 9, 3);
        looks("g(1, 1)", 3, 1, 3, 3);
        looks("try g(1, A(1)) on x do 1", 3, 1, 3, 2);
    }

    private static void fewestNodes() {
        CHECK.sentence("The order with the fewest NODES");
        CHECK.tell("kind A; call f(3) best left; method f(x: Int, y, z: Int) = 1; method f(x, y: Int, z: Fault) = 1;");
        // by z first, then x and y: 1, 1, 1; by x, y, z 1, 2, 3; by x, z, y 1, 2, 1; by y, z, x 1, 2, 1
        told(0, 2, 3, 27, 12, 3);
        looks("f(1, 1, 1)", 2, 1, 4, 3);
        looks("try f(1, 1, A(1)) on x do 1", 2, 1, 4, 2);
        looks("f(1, 1, Fault(1))", 2, 1, 4, 3);
        CHECK.tell("call g(2) best left; method g(x, y: A) = 1; method g(x: Int, y: Int) = 1;");
        told(1, 2, 3, 9, 6, 2);
        looks("g(1, A(1))", 2, 1, 3, 2);
        looks("g(1, 1)", 2, 1, 3, 3);
    }

    private static void firstByPlaces() {
        CHECK.sentence("of several the first by numbers of places");
        CHECK.tell("kind A; call f(2) best left; method f(x: A, y: A) = 1;");
        told(0, 1, 2, 9, 4, 2);
        looks("try f(1, A(1)) on x do 1", 1, 1, 3, 2);
        looks("try f(A(1), 1) on x do 1", 1, 1, 3, 3);
        CHECK.tell("call g(3) best left; method g(x: Int, y, z: Int) = 1; method g(x, y: Int, z: Fault) = 1; method g(x: A, y: A, z: A) = 1;");
        // z first has 5 whether x or y comes then; the others have 6 and more
        told(1, 3, 4, 27, 27, 5);
        looks("try g(1, A(1), A(1)) on x do 1", 3, 1, 4, 3);
        looks("try g(A(1), 1, A(1)) on x do 1", 3, 1, 4, 4);
        CHECK.tell("call h(3) best left; method h(x: A, y: A, z: A) = 1;");
        looks("try h(1, A(1), A(1)) on x do 1", 1, 1, 4, 2);
        looks("try h(A(1), 1, A(1)) on x do 1", 1, 1, 4, 3);
        looks("try h(A(1), A(1), 1) on x do 1", 1, 1, 4, 4);
    }

    private static void choosingGivesTheList() {
        CHECK.sentence("choosing by trying, by tables, by pressed tables and by shared trees, that tell the same");
        CHECK.tell("kind A; kind B < A; layer L; call f(2) best left; method f(x, y) = 1; method f(x: A, y) = next + 10;"
            + "method f(x, y: B) = next + 100; method f(x: B, y: A) = next + 1000; method f(x, y) before in L = show 5; method f(x: Int, y) around = next;");
        for (int choosing = 0; choosing < 4; choosing++) {
            CHECK.house().set(0, choosing);
            CHECK.gives("with L do f(B(0), B(0))", 1111);
            CHECK.steps(6 + 2 + 3 + 3 + 3 + 1);
            CHECK.showed(5);
            CHECK.ran(5, 4, 2, 3, 1);
            CHECK.gives("f(0, B(0))", 101);
            CHECK.ran(6, 3, 1);
        }
    }

    private static void byTheWorldAsItIs() {
        CHECK.sentence("What is told of calls is by the WORLD as it is");
        CHECK.tell("call f(1) best left; method f(x: Int) = 1;");
        told(0, 1, 2, 2, 2, 1, 1, 2, -1, -1);
        CHECK.tell("method f(x: Fault) = 1;");
        told(0, 2, 2, 2, 2, 1, 0, -1, -1, -1);
        CHECK.tellWrong(1, "kind B; method f(x: B) = 1; kind^");
        told(0, 2, 2, 2, 2, 1, 0, -1, -1, -1);
        CHECK.tell("kind A;");
        told(0, 2, 3, 3, 3, 1, 1, 3, -1, -1);
        looks("f(1)", 2, 1, 2, 2);
        CHECK.house().drop(2);
        told(0, 1, 2, 3, 2, 1, 1, 2, -1, -1);
        CHECK.house().drop(1);
        told(0, 0, 1, 3, 1, 0, 1, 1, -1, -1);
        looks("try f(1) on x do 1", 0, 1, 2, 1);
        CHECK.house().clear();
        CHECK.tell("call g(2) best left;");
        told(0, 0, 1, 4, 1, 0, 1, 1, 1, -1);
        // WAY of ROWS: 6 D < B, C has the row 6 4 5 3 0, by way 1 6 4 3 0 5
        CHECK.tell("kind A; kind B < A; kind C < A bare; kind D < B, C; call h(2) best near; method h(x, y) = 1; method h(x: A, y: Int) = 1;"
            + "method h(x: C, y) = 1;");
        whole(2, 6, 1);
        CHECK.house().set(1, 1);
        whole(0);
        CHECK.house().set(1, 0);
        whole(2, 6, 1);
    }

    private static void wholeIsZero() {
        CHECK.sentence("WHOLE is a call 0: for each row of MAKEABLE kinds and whatever numbers, one APPLIES");
        CHECK.tell("kind A; kind Z bare; call f(1) best left; method f(x: Int) = 1; method f(x: Fault) = 1; method f(x: A) = 1;");
        whole(0);
        CHECK.tell("kind B < Z;");
        whole(1, 5);
        CHECK.tell("method f(x: Z) = 1;");
        whole(0);
        CHECK.tell("call g(2) best left; method g(x: Int, y) = 1; method g(x: Fault, y) = 1; method g(x: A, y) = 1; method g(x: B, y: Int) = 1;");
        whole(1, 5, 2);
        CHECK.tell("method g(x: B, y) = 1;");
        whole(0);
    }

    private static void wholeOf(int want, String... methods) {
        CHECK.anew();
        CHECK.tell("call f(2) best left;");
        for (String method : methods) {
            CHECK.tell("method f(" + method + " = 1;");
        }
        if (want == 0) {
            whole(0);
        } else {
            whole(want, 1, 1);
        }
    }

    private static void whateverNumbers() {
        CHECK.sentence("and whatever numbers, one APPLIES (ints to their ends)");
        wholeOf(0, "x, y) if x < 5", "x, y) if 4 < x");
        wholeOf(1, "x, y) if x < 5", "x, y) if 5 < x");
        wholeOf(0, "x == 5, y)", "x, y) if not x == 5");
        wholeOf(1, "x == 5, y)", "x, y) if not x == 6");
        wholeOf(0, "x, y) if x < y", "x, y) if y < x", "x, y) if x == y");
        wholeOf(1, "x, y) if x < y", "x, y) if y + 1 < x", "x, y) if x == y");
        wholeOf(0, "x, y) if x <= 2147483647");
        wholeOf(1, "x, y) if x < 2147483647");
        wholeOf(0, "x, y) if -2147483647 <= x + 1");
        wholeOf(1, "x, y) if -2147483647 <= x");
        wholeOf(0, "x, y) if x < x + 1");
        wholeOf(1, "x, y) if x < x");
        wholeOf(0, "x, y) if y - 2147483647 <= x + 2147483647 or x < -2147483646");
        wholeOf(1, "x, y) if y - 2147483647 <= x + 2147483647");
    }

    private static void wholeIsOne() {
        CHECK.sentence("1: the first row of kinds for which that is not so has numbers for which none APPLIES");
        wholeOf(1, "x, y) if x < 5", "x, y) if 3 < x and x < 9");
        wholeOf(1, "x, y) if 3 < x and x < 9", "x, y) if x < 5");
        wholeOf(1);
        CHECK.anew();
        CHECK.tell("call f(1) best left; method f(x: Int) = 1; method f(x: Fault) if x < 5 = 1;");
        whole(1, 2);
        CHECK.tell("kind A; call g(1) best left; method g(x) if x < 5 = 1; method g(x: A) = 1;");
        whole(1, 1);
    }

    private static void wholeIsTwo() {
        CHECK.sentence("2: it has not (the ROW begins with SEVERAL)");
        wholeOf(2, "x, y) if x < 5", "x, y) if 3 < x");
        wholeOf(0, "x, y) if x < 5", "x, y) if 4 < x");
        wholeOf(0, "x, y) if x < 5", "x, y) if 3 < x", "x == 4, y)");
        wholeOf(2, "x, y) if x < 5", "x, y) if 2 < x", "x == 4, y)");
        wholeOf(2, "x, y)", "x, y) if x < 5 or 4 < x");
        wholeOf(2, "x == 1, y)", "x, y == 1)", "x, y)");
        wholeOf(0, "x == 1, y)", "x, y == 1)", "x == 1, y == 1)", "x, y)");
        CHECK.anew();
        // SEVERAL in the row of Int, none in that of Fault: the first row says
        CHECK.tell("call f(1) best left; method f(x: Int) if x < 5 = 1; method f(x: Int) if 3 < x = 1;");
        whole(2, 1);
        CHECK.tell("call g(1) best left; method g(x: Fault) if x < 5 = 1; method g(x: Fault) if 3 < x = 1;");
        whole(1, 1);
        CHECK.tell("kind A; call e(2) best each; method e(x, y) = 1; method e(x: A, y) = 1; method e(x, y: A) = 1;");
        whole(2, 3, 3);
    }

    private static void bestAlone() {
        CHECK.sentence("and (best) the ROW does not begin with SEVERAL");
        for (String join : "sum all any least".split(" ")) {
            CHECK.anew();
            CHECK.tell("call f(1) " + join + " left; method f(x) if x < 5 = 1; method f(x) if 3 < x = 1;");
            whole(0);
            CHECK.tell("call g(1) " + join + " left; method g(x) if x < 5 = 1; method g(x) if 5 < x = 1;");
            whole(1, 1);
        }
    }

    private static void plainWithoutLayers() {
        CHECK.sentence("(its plain methods without layers alone)");
        CHECK.tell("layer L; call f(1) best left; method f(x) in L = 1; method f(x) around = 1; method f(x) before = 1; method f(x) behind = 1;");
        whole(1, 1);
        CHECK.tell("method f(x) = 1;");
        whole(0);
        CHECK.tell("call g(1) best left; method g(x) around if x < 5 = 1; method g(x) in L if x < 6 = 1; method g(x) = 1; method g(x) before if x < 3 = 1;"
            + "method g(x) if x < 4 = 1;");
        whole(0);
        CHECK.house().drop(8);
        whole(1, 1);
        CHECK.house().clear();
        CHECK.tell("layer L; call f(1) best left; method f(x) = 1;");
        CHECK.tell("method f(x) in L if x < 5 = 1; method f(x) in L if 3 < x = 1; method f(x) around if x < 5 = 1; method f(x) around if 3 < x = 1;");
        whole(0);
        // what the others ask is not counted
        String six = " if x<1 or x<2 or x<3 or x<4 or x<5 or x<6 = 1;";
        CHECK.tell("method f(x) in L" + six + "method f(x) around" + six + "method f(x) before" + six + "method f(x) behind" + six);
        whole(0);
    }

    private static void moreThanEight() {
        CHECK.sentence("rows where the plain ones that FIT have more than 8 ==, comparisons and is together");
        // these take 7, 0 to 8, and all from 6 on but 20: for 6 and 8 there are SEVERAL
        String eight = "call f(1) best left; method f(x) = 1; method f(x: Int == 7) if x < 9 = 1;"
            + "method f(x: Int) if x < 9 and x is Int and 0 <= x = 1; method f(x: Int) if 5 < x and x is Any and not x == 20 = 1;";
        for (String ninth : new String[] {"f(x: Int == 3)", "f(x: Int == 7)", "f(x: Int) if x < 3", "f(x) if x <= 3", "f(x: Int) if x == 3",
            "f(x) if x is Int", "f(x: Int) if not x is Fault"}) {
            CHECK.anew();
            CHECK.tell(eight);
            whole(2, 1);
            CHECK.tell("method " + ninth + " = 1;");
            whole(-1);
            CHECK.house().drop(5);
            whole(2, 1);
        }
        // an == counts at each place
        for (String ninth : new String[] {"x == 1, y, z)", "x, y == 1, z)", "x, y, z == 1)"}) {
            CHECK.anew();
            CHECK.tell("call f(3) best left; method f(x, y, z) = 1; method f(x, y == 2, z == 2) if x < 5 and y < 5 and x < 6 and y < 6 = 1;"
                + "method f(x == 2, y, z) if z < 5 = 1;");
            whole(2, 1, 1, 1);
            CHECK.tell("method f(" + ninth + " = 1;");
            whole(-1);
        }
        CHECK.anew();
        CHECK.tell(eight);
        // nine in the row of Fault alone are none in that of Int
        CHECK.tell("method f(x: Fault) if x<1 or x<2 or x<3 or x<4 or x<5 or x<6 = 1; method f(x: Fault) if 1<x or 2<x or 3<x = 1;");
        whole(2, 1);
    }

    private static void eightAtOnce() {
        CHECK.sentence("rows with 8 of them are not passed over");
        StringBuilder text = new StringBuilder("call f(1) best left; method f(x) if x < 1 or 6 < x = 1;");
        for (int i = 1; i <= 6; i++) {
            text.append("method f(x == ").append(i).append(") = 1;");
        }
        CHECK.tell(text.toString());
        whole(0);
        CHECK.house().drop(4);
        whole(1, 1);
        CHECK.anew();
        CHECK.tell("call f(3) best left; method f(x, y, z) if x < y and y < z and z < x or x <= y or y <= z = 1;"
            + "method f(x, y, z) if y < x and z < y and not x <= z = 1;");
        whole(0);
        CHECK.anew();
        CHECK.tell("call f(3) best left; method f(x, y, z) if x < y and y < z and z < x or x <= y or y <= z = 1;"
            + "method f(x, y, z) if y < x and z < y and not x <= z + 2 = 1;");
        whole(1, 1, 1, 1);
    }

    private static final String NINE = "if x<1 or x<2 or x<3 or x<4 or x<5 or x<6 = 1;";

    private static void rowBefore() {
        CHECK.sentence("-1: a row before that, or without such a one any row, was passed over");
        // the row of Int is passed over, that of Fault has none
        CHECK.tell("call f(1) best left; method f(x: Int) = 1; method f(x: Int) " + NINE + "method f(x: Int) if 1<x or 2<x or 3<x = 1;");
        whole(-1);
        CHECK.tell("method f(x: Fault) = 1;");
        whole(-1);
        // the row of Int has none, that of Fault would be passed over
        CHECK.tell("call g(1) best left; method g(x: Fault) = 1; method g(x: Fault) " + NINE + "method g(x: Fault) if 1<x or 2<x or 3<x = 1;");
        whole(1, 1);
        CHECK.tell("method g(x: Int) if x < 5 = 1; method g(x: Int) if 3 < x = 1;");
        whole(2, 1);
        CHECK.tell("method g(x: Int == 4) = 1;");
        whole(-1);
    }

    /** 20 makeable kinds: 1, 2, 3 P, 4 K0 .. 19 K15 below P, 20 Q. */
    private static void twentyKinds() {
        StringBuilder kinds = new StringBuilder("kind P;");
        for (int i = 0; i < 16; i++) {
            kinds.append("kind K").append(i).append("<P;");
        }
        CHECK.tell(kinds + "kind Q;");
    }

    private static void behindTheTwoHundredth() {
        CHECK.sentence("and of the rows where they have any, all behind the 200th");
        twentyKinds();
        StringBuilder text = new StringBuilder("call e(2) best left; method e(x, y) = 1;");
        for (int i = 0; i < 9; i++) {
            text.append("method e(x: K").append(i).append(", y) if x < y = 1;");
        }
        // 9 times 20 rows, 17 and 2
        CHECK.tell(text + "method e(x: K9, y: P) if x < y = 1; method e(x: K10, y: Int) if x < y = 1; method e(x: K10, y: Fault) if x < y = 1;");
        whole(0);
        CHECK.tell("method e(x: Q, y: Q) if x < 5 = 1; method e(x: Q, y: Q) if 3 < x = 1;");
        // the 200th
        whole(2, 20, 20);
        CHECK.tell("method e(x: K10, y: Q) if x < y = 1;");
        // the 201st
        whole(-1);
        CHECK.due("drop", CHECK.house().drop(CHECK.house().count(2)), true);
        whole(2, 20, 20);
        // a row with several of them is one row
        CHECK.tell("method e(x: K10, y: Int == 5) if y < x = 1;");
        whole(2, 20, 20);
    }

    private static void passedOverAlone() {
        CHECK.sentence("of the rows where they have any (those that have none are never passed over)");
        twentyKinds();
        StringBuilder text = new StringBuilder("call k(2) best left; method k(x: Int, y) = 1; method k(x: Fault, y) = 1; method k(x: P, y) = 1;");
        for (int i = 0; i < 10; i++) {
            text.append("method k(x: K").append(i).append(", y) if x < y = 1;");
        }
        CHECK.tell(text.toString());
        whole(1, 20, 1);
        CHECK.tell("method k(x: K15, y: K15) if x < y = 1;");
        whole(-1);
        CHECK.house().drop(CHECK.house().count(2));
        CHECK.tell("method k(x: Q, y) = 1;");
        whole(0);
        CHECK.tell("method k(x: Q, y: Q) if x < y = 1;");
        whole(-1);
    }

    private static void kindsOfTheRow() {
        CHECK.sentence("behind a WHOLE that is 1 or 2 6 to 8: the kind at its places in that row (-1: no such place; or WHOLE is 0 or -1)");
        CHECK.tell("kind A; call f(1) best left; method f(x: Int) = 1;");
        whole(1, 2);
        CHECK.tell("call g(2) best left; method g(x: Int, y) = 1; method g(x, y: Int) = 1; method g(x: Int, y: Int) = 1;");
        whole(1, 2, 2);
        CHECK.tell("call h(3) best each; method h(x, y, z) = 1; method h(x: A, y, z) = 1; method h(x, y, z: Int) = 1;");
        whole(2, 3, 1, 1);
        CHECK.tell("method h(x: A, y, z: Int) = 1;");
        whole(0);
        CHECK.tell("method h(x: Int, y: Int, z: Int) " + NINE + "method h(x: Int, y: Int, z: Int) if 1<x or 2<x or 3<x = 1;");
        whole(-1);
        // asked without asking for WHOLE first
        CHECK.anew();
        CHECK.tell("call f(2) best left; method f(x: Int, y) = 1;");
        CHECK.due("the second place", CHECK.house().call(0, 7), 1);
        CHECK.due("the first place", CHECK.house().call(0, 6), 2);
    }

    private static void askedAlone() {
        CHECK.sentence("Promise 13: Of call c what (each asked before the others)");
        int[] want = {3, 5, 16, 9, 4, 1, 1, 1, -1};
        for (int what = 0; what < want.length; what++) {
            CHECK.anew();
            CHECK.tell("kind A; kind B < A; call f(2) best left; method f(x: A, y) = 1; method f(x, y: A) = 1; method f(x: B, y: B) = 1;");
            CHECK.due("call 0 " + what, CHECK.house().call(0, what), want[what]);
            CHECK.house().drop(1);
            CHECK.due("methods", CHECK.house().call(0, 0), 2);
        }
        CHECK.anew();
        CHECK.tell("kind A; call f(2) best left; method f(x: A, y: A) = 1;");
        CHECK.house().set(0, 3);
        CHECK.gives("f(A(1), A(1))", 1);
        CHECK.due("LOOKS", CHECK.house().told(6), 3);
        CHECK.tell("method f(x, y) = 1; method f(x, y: Int) = 1;");
        CHECK.gives("f(A(1), 1)", 1);
        // by y first: 1 and 1
        CHECK.due("LOOKS", CHECK.house().told(6), 2);
    }

    /** A method for each kind at each place, all others saying nothing: so all rows of GROUPS have their own LIST. */
    private static String each(int places) {
        StringBuilder text = new StringBuilder("call f" + places + "(" + places + ")sum left;");
        String specs = "x,y,z".substring(0, 2 * places - 1);
        for (int p = 0; p < places; p++) {
            for (int i = 0; i < 20; i++) {
                String name = specs.substring(2 * p, 2 * p + 1);
                text.append("method f").append(places).append("(").append(specs.replace(name, name + ":K" + i)).append(")=1;");
            }
        }
        return text.toString();
    }

    private static void manyLists() {
        CHECK.sentence("LISTS, CELLS and NODES of the largest calls");
        StringBuilder kinds = new StringBuilder();
        for (int i = 0; i < 21; i++) {
            kinds.append("kind K").append(i).append(";");
        }
        CHECK.tell(kinds.toString());
        CHECK.tell(each(2));
        // Int, Fault and K20 are one GROUP
        told(0, 40, 21 * 21, 23 * 23, 21 * 21, 1 + 21, 1, 1, 1, -1);
        CHECK.tell(each(3));
        told(1, 60, 21 * 21 * 21, 23 * 23 * 23, 21 * 21 * 21, 1 + 21 + 21 * 21, 1, 1, 1, 1);
        told(0, 40, 21 * 21, 23 * 23, 21 * 21, 1 + 21);
        looks("f3(K0(0), 0, K19(0)) + f2(K5(0), K6(0))", 100, 2, 7, 7);
        CHECK.ran(41, 100, 6, 27);
    }

    private static void manyMethods() {
        DispatchHouse house = CHECK.sentence("LISTS of more than 64 methods");
        StringBuilder text = new StringBuilder("kind A; kind B < A; call f(1) sum left; call g(2) sum left;");
        for (int i = 1; i <= 120; i++) {
            String kind = i % 4 == 0 ? "Int" : i % 4 == 1 ? "A" : i % 4 == 2 ? "B" : "Fault";
            text.append(i <= 62 ? "method f(x:" + kind + "==" + i + ")=1;" : "method g(x:" + kind + ",y==" + i + ")=1;");
        }
        CHECK.tell(text.toString());
        // f: 1 to 62; g: 63 to 120
        told(0, 62, 4, 4, 4, 1);
        told(1, 58, 4, 16, 4, 1);
        for (int i : new int[] {63, 64, 65, 66, 67, 68, 117, 118, 119, 120}) {
            String kind = i % 4 == 0 ? "Int" : i % 4 == 1 ? "A" : i % 4 == 2 ? "B" : "Fault";
            CHECK.gives("g(" + kind + "(0), " + i + ")", 1);
            CHECK.ran(i);
            CHECK.faults("g(" + (i % 4 == 0 ? "A" : "Int") + "(0), " + i + ")", 1);
        }
        CHECK.due("drop 65", house.drop(65), true);
        CHECK.faults("g(A(0), 65)", 1);
        told(0, 62);
        told(1, 57, 4, 16, 4, 1);
        CHECK.due("drop 1", house.drop(1), true);
        told(0, 61);
    }

    private static void manyMethodsAnew() {
        DispatchHouse house = CHECK.sentence("LISTS of more than 64 methods (behind clear)");
        StringBuilder text = new StringBuilder("kind A; kind B < A; call f(1) sum left; call g(2) sum left;");
        for (int i = 1; i <= 120; i++) {
            String kind = i % 4 == 0 ? "Int" : i % 4 == 1 ? "A" : i % 4 == 2 ? "B" : "Fault";
            text.append(i <= 62 ? "method f(x:" + kind + "==" + i + ")=1;" : "method g(x:" + kind + ",y==" + i + ")=1;");
        }
        CHECK.tell(text.toString());
        house.clear();
        // the same numbers with other kinds
        text = new StringBuilder("kind A; kind B < A; call f(1) sum left; call g(2) sum left;");
        for (int i = 1; i <= 120; i++) {
            text.append(i <= 62 ? "method f(x==" + i + ")=1;" : "method g(x,y:" + (i < 100 ? "B" : "Int") + "==" + i + ")=1;");
        }
        CHECK.tell(text.toString());
        told(0, 62, 1, 4, 1, 0);
        told(1, 58, 3, 16, 3, 1);
        CHECK.gives("f(62) + g(0, B(65)) + g(0, 120)", 3);
        CHECK.ran(62, 65, 120);
        CHECK.faults("g(0, A(65))", 1);
        CHECK.anew();
        // a tree of methods behind the 64th, one of which fits no row
        text = new StringBuilder("kind A; kind Z bare; call f(1) sum left; call g(3) sum left;");
        for (int i = 1; i <= 100; i++) {
            text.append("method f(x==").append(i).append(")=1;");
        }
        CHECK.tell(text + "method g(x: Int, y: A, z) = 1; method g(x: Z, y: Int, z: A) = 1; method g(x: Fault, y, z: A) = 1;");
        // by x first: 1, 1 for y, 1 for z; y and z first have more
        told(1, 3, 3, 27, 12, 3);
        looks("g(1, A(1), 1)", 3, 1, 4, 3);
        looks("g(Fault(1), 1, A(1))", 3, 1, 4, 3);
        looks("try g(A(1), 1, 1) on x do 1", 3, 1, 4, 2);
    }

    private static void methodsOfACall() {
        CHECK.sentence("Promise 13: Of call c what 0: methods");
        CHECK.tell("layer L; call f(1) best left; call g(1) best left;");
        told(0, 0);
        CHECK.tell("method f(x) = 1; method f(x) around = 1; method f(x) before in L = 1; method g(x) = 1;");
        told(0, 3);
        told(1, 1);
        CHECK.house().drop(2);
        told(0, 2);
        CHECK.tellWrong(3, "method f(x: Int) = ^y;");
        told(0, 2);
        StringBuilder text = new StringBuilder();
        for (int i = 5; i <= 120; i++) {
            text.append("method f(x==").append(i).append(")=1;");
        }
        CHECK.tell(text.toString());
        told(0, 118, 1, 2, 1, 0, -1);
        CHECK.house().drop(64);
        CHECK.house().drop(65);
        CHECK.house().drop(120);
        told(0, 115);
    }

    private static void callThrows() {
        DispatchHouse house = CHECK.sentence("Promise 13: IndexOutOfBoundsException: c is none, from 0. IllegalArgumentException for others");
        CHECK.refused("call 0 of a new house", IndexOutOfBoundsException.class, () -> house.call(0, 0));
        CHECK.tell("call f(1) best left; call g(2) best left;");
        for (int c : new int[] {-1, 2, 23, 24, Integer.MIN_VALUE, Integer.MAX_VALUE}) {
            for (int what : new int[] {0, 8, 9}) {
                CHECK.throwing("call " + c + " " + what, IndexOutOfBoundsException.class, () -> house.call(c, what));
            }
        }
        CHECK.refused("call 1 9", IllegalArgumentException.class, () -> house.call(1, 9));
        for (int what : new int[] {-1, 9, 10, Integer.MIN_VALUE, Integer.MAX_VALUE}) {
            CHECK.throwing("call 1 " + what, IllegalArgumentException.class, () -> house.call(1, what));
        }
        CHECK.due("call 1 8", house.call(1, 8), -1);
        CHECK.refused("call 2", IndexOutOfBoundsException.class, () -> house.call(2, 9));
        house.clear();
        CHECK.throwing("call 0 behind clear", IndexOutOfBoundsException.class, () -> house.call(0, 0));
    }
}
