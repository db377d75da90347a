/** Term 3: what applies, rows of methods, calls, what is inside and next, a test for each sentence. */
public final class EdgesOfChoosingTest {
    private static final Check CHECK = new Check();

    public static void main(String[] args) {
        numbersOfMethods();
        equalNumbers();
        testsHold();
        termsAreExact();
        onWithoutLayer();
        lastLayerFirst();
        eightLayers();
        severalEndTheRow();
        severalByNumbers();
        nonePlain();
        firstAround();
        nextAround();
        withoutAround();
        insideBeginsWithSeveral();
        beforeThenFirst();
        nextPlain();
        nextInJoined();
        argumentsOfInside();
        sums();
        leasts();
        alls();
        anys();
        behindTheLastFirst();
        nextInBeforeAndBehind();
        whatTheyGive();
        nextGoesOn();
        nextWithArguments();
        nothingChosenAnew();
        eachCallByItsOwn();
        manyAlike();
        CHECK.done();
    }

    private static void numbersOfMethods() {
        DispatchHouse house = CHECK.sentence("METHODS are numbered from 1 as they are told");
        CHECK.tell("call f(1) best left; call g(1) best left; method g(x) = f(x); method f(x) = next(1);");
        CHECK.tell("method f(x: Int) = 1;");
        CHECK.gives("g(1)", 1);
        CHECK.ran(1, 3);
        CHECK.due("methods", house.count(2), 3);
        CHECK.throwing("there is no method 0", IndexOutOfBoundsException.class, () -> house.drop(0) ? 1 : 0);
        house.drop(3);
        CHECK.tell("method f(x: Int) = 2;");
        CHECK.gives("f(1)", 2);
        CHECK.ran(4);
    }

    private static void equalNumbers() {
        CHECK.sentence("their numbers are those of == where it has one");
        CHECK.tell("kind A; call f(2) sum left; method f(x, y) = 0; method f(x == 0, y) = 1; method f(x, y == -1) = 2;"
            + "method f(x == 2147483647, y == -2147483647) = 4; method f(x: A == 0, y) = 8;");
        CHECK.gives("f(1, 0)", 0);
        CHECK.gives("f(0, 0)", 1);
        CHECK.gives("f(-1, -1)", 2);
        CHECK.gives("f(1, -1)", 2);
        CHECK.gives("f(0, -1)", 3);
        CHECK.gives("f(2147483647, -2147483647)", 4);
        CHECK.gives("f(2147483647, -2147483647 - 1)", 0);
        CHECK.gives("f(-2147483647 - 1, -2147483647)", 0);
        CHECK.gives("f(A(0), 5)", 9);
        CHECK.gives("f(A(1), 5)", 0);
    }

    private static void testsHold() {
        CHECK.sentence("its TEST holds (or, and, not; < <= ==; is)");
        CHECK.tell("kind A; kind B < A; call f(1) sum left; method f(x) = 0; method f(x) if x < 1 = 1; method f(x) if x <= 1 = 2;"
            + "method f(x) if x == 1 = 4; method f(x) if not x < 1 = 8; method f(x) if x < 1 and 1 < 2 or x == 3 = 16;"
            + "method f(x) if x == 0 or x == 1 and x < 0 = 32; method f(x) if (x == 0 or x == 1) and not x == 1 = 64;"
            + "method f(x) if not x == 0 and not not x == 1 = 128; method f(x) if x is A = 256; method f(x) if not x is B = 512;"
            + "method f(x) if x < 9 or x == 8 or x == 7 or x == 6 or x == 5 or 20 <= x = 1024;");
        CHECK.gives("f(0)", 1 + 2 + 16 + 32 + 64 + 512 + 1024);
        CHECK.gives("f(1)", 2 + 4 + 8 + 128 + 512 + 1024);
        CHECK.gives("f(2)", 8 + 512 + 1024);
        CHECK.gives("f(3)", 8 + 16 + 512 + 1024);
        CHECK.gives("f(9)", 8 + 512);
        CHECK.gives("f(19)", 8 + 512);
        CHECK.gives("f(20)", 8 + 512 + 1024);
        CHECK.gives("f(-1)", 1 + 2 + 16 + 512 + 1024);
        CHECK.gives("f(A(2))", 8 + 256 + 512 + 1024);
        CHECK.gives("f(B(2))", 8 + 256 + 1024);
    }

    private static void termsAreExact() {
        CHECK.sentence("TERMS are numbers of arguments, with a number more or less, exact");
        CHECK.tell("call f(2) sum left; method f(x, y) = 0; method f(x, y) if x < x + 1 = 1; method f(x, y) if x - 1 < x = 2;"
            + "method f(x, y) if x + 2147483647 < y = 4; method f(x, y) if x - 2147483647 <= y = 8; method f(x, y) if x + 1 == y - 1 = 16;"
            + "method f(x, y) if 2147483647 < x + 1 = 32; method f(x, y) if x - 1 < -2147483647 = 64; method f(x, y) if x < y = 128;");
        CHECK.gives("f(2147483647, 0)", 1 + 2 + 8 + 32);
        CHECK.gives("f(2147483647, -1)", 1 + 2 + 32);
        CHECK.gives("f(-2147483647 - 1, 0)", 1 + 2 + 4 + 8 + 64 + 128);
        CHECK.gives("f(-2147483647 - 1, -1)", 1 + 2 + 8 + 64 + 128);
        CHECK.gives("f(-2147483647, 2147483647)", 1 + 2 + 4 + 8 + 64 + 128);
        CHECK.gives("f(-2147483646, -2147483644)", 1 + 2 + 8 + 16 + 128);
        CHECK.gives("f(2147483647, -2147483647)", 1 + 2 + 32);
        CHECK.gives("f(2147483646, 2147483647)", 1 + 2 + 8 + 128);
        CHECK.gives("f(2147483647, -2147483647 - 1)", 1 + 2 + 32);
        CHECK.gives("f(-2147483647 - 1, 2147483647)", 1 + 2 + 4 + 8 + 64 + 128);
    }

    private static void onWithoutLayer() {
        CHECK.sentence("it is on: without a layer, or its layer is on");
        CHECK.tell("layer L; layer M; call f(1) sum left; method f(x) = 1; method f(x) in L = 2; method f(x) in M = 4;");
        CHECK.gives("f(0)", 1);
        CHECK.gives("with L do f(0)", 3);
        CHECK.gives("with M do f(0)", 5);
        CHECK.gives("with L do with M do f(0)", 7);
        CHECK.gives("with L do with M do without L do f(0)", 5);
        CHECK.gives("without L do f(0)", 1);
    }

    private static void lastLayerFirst() {
        CHECK.sentence("of the layer that was put on last first, of each layer that is on, then those without one");
        CHECK.tell("layer L; layer M; call f(1) best left; method f(x: Int == 0) = 1; method f(x) in L = next; method f(x: Int) in M = next;"
            + "method f(x) in M = next; method f(x) = 5;");
        CHECK.gives("with L do with M do f(0)", 1);
        CHECK.ran(3, 4, 2, 1);
        CHECK.gives("with M do with L do f(0)", 1);
        CHECK.ran(2, 3, 4, 1);
        CHECK.gives("with M do with L do with M do f(1)", 5);
        CHECK.ran(3, 4, 2, 5);
        CHECK.gives("with M do f(1)", 5);
        CHECK.ran(3, 4, 5);
        CHECK.tell("method f(x) before = 0; method f(x) before in L = 0; method f(x) behind in M = 0; method f(x) behind = 0;"
            + "method f(x) around = next; method f(x) around in M = next; method f(x) around in L = next;");
        CHECK.gives("with L do with M do f(0)", 1);
        CHECK.ran(11, 12, 10, 7, 6, 3, 4, 2, 1, 9, 8);
    }

    private static void eightLayers() {
        CHECK.sentence("of each layer that is on (all eight of them)");
        CHECK.tell("call f(1) best left; method f(x) = 0; call s(1) sum left; method s(x) = 1;");
        StringBuilder on = new StringBuilder();
        for (int i = 1; i <= 8; i++) {
            CHECK.tell("layer L" + i + "; method f(x) in L" + i + " = next * 10 + " + i + "; method s(x) in L" + i + " = 1;");
            on.append("with L").append(i).append(" do ");
        }
        CHECK.gives(on + "f(0)", 12345678);
        CHECK.gives(on + "s(0)", 9);
        CHECK.ran(18, 16, 14, 12, 10, 8, 6, 4, 2);
        // in a method there is room for more in one another
        CHECK.tell("call g(1) best left; method g(x == 1) = with L1 do f(0); method g(x == 4) = with L4 do f(0); method g(x == 8) = with L8 do f(0);");
        CHECK.gives(on + "g(1)", 23456781);
        CHECK.gives(on + "g(4)", 12356784);
        CHECK.gives(on + "g(8)", 12345678);
        CHECK.tell("call h(1) best left; method h(x == 1) = without L1 do f(0); method h(x == 5) = without L5 do without L3 do f(0);"
            + "method h(x == 8) = (without L8 do f(0)) * 10 + (f(0) == 12345678);");
        CHECK.gives(on + "h(1)", 2345678);
        CHECK.gives(on + "h(5)", 124678);
        CHECK.gives(on + "h(8)", 12345671);
        CHECK.gives("with L3 do with L1 do with L2 do with L3 do f(0)", 123);
        CHECK.gives("with L3 do with L1 do with L2 do with L1 do f(0)", 321);
        CHECK.gives("with L3 do with L1 do with L2 do without L1 do f(0)", 32);
        CHECK.gives("with L3 do with L1 do with L2 do without L3 do f(0)", 12);
        CHECK.gives("with L8 do with L7 do with L2 do without L2 do f(0)", 87);
    }

    private static void severalEndTheRow() {
        CHECK.sentence("if there are several such: SEVERAL, the ROW ends there");
        CHECK.tell("kind A; layer L; call f(2) best each; method f(x, y) = 1; method f(x: A, y) = 2; method f(x, y: A) = 3;"
            + "method f(x: A, y: A) = next + 10; method f(x: A, y: A) in L = next + 100;");
        CHECK.faults("f(A(0), A(0))", 2);
        CHECK.ran(4);
        CHECK.faults("with L do f(A(0), A(0))", 2);
        CHECK.ran(5, 4);
        CHECK.gives("f(A(0), 0) * 10 + f(0, A(0))", 23);
        CHECK.tell("method f(x: A, y) in L = 5; method f(x, y: A) in L = 6;");
        // behind the one of the layer come two, and the row does not go on to those without a layer
        CHECK.faults("with L do f(A(0), A(0))", 2);
        CHECK.ran(5);
        // two that are the same but for what they ask, of which neither asks more
        CHECK.tell("call g(1) best left; method g(x) if x < 5 = 1; method g(x) if 3 < x = 2; method g(x: Int) if x <= 4 = next; method g(x: Int) if x < 5 = 3;");
        CHECK.faults("g(4)", 2);
        CHECK.ran();
    }

    private static void severalByNumbers() {
        CHECK.sentence("but of before, behind, and of plain ones of a call that is not best, then the one with the least number of these");
        CHECK.tell("kind A; call f(2) sum each; method f(x, y: A) = 1; method f(x: A, y) = 1; method f(x, y) = 1; method f(x: A, y: A) = 1;");
        CHECK.gives("f(A(0), A(0))", 4);
        CHECK.ran(4, 1, 2, 3);
        CHECK.tell("call g(2) best each; method g(x, y) = 1; method g(x, y) before = 1; method g(x, y: A) before = 1; method g(x: A, y) before = 1;"
            + "method g(x: A, y) behind = 1; method g(x, y) behind = 1; method g(x, y: A) behind = 1;");
        CHECK.gives("g(A(0), A(0))", 1);
        CHECK.ran(7, 8, 6, 5, 10, 11, 9);
        for (String join : "sum all any least".split(" ")) {
            CHECK.tell("call " + join + "_(1) " + join + " left; method " + join + "_(x) if x < 5 = 1; method " + join + "_(x) if 3 < x = 1;");
            CHECK.gives(join + "_(4)", join.equals("sum") ? 2 : 1);
        }
        // the least number of those to which none is nearer, not of all that are left
        CHECK.tell("kind B < A; call h(2) sum each; method h(x: A, y) = 1; method h(x, y: A) = 1; method h(x: B, y) = 1;");
        CHECK.gives("h(B(0), B(0))", 3);
        CHECK.due("methods", CHECK.house().ran(), 6);
        CHECK.due("the second, the third, the first", CHECK.house().word(0), 0x0015001600140000L);
    }

    private static void nonePlain() {
        CHECK.sentence("A CALL: no plain one APPLIES: FAULT 1");
        CHECK.tell("layer L; call f(1) best left; call s(1) sum left;");
        CHECK.faults("f(0)", 1);
        CHECK.faults("s(0)", 1);
        CHECK.tell("method f(x) around = 1; method f(x) before = show 1; method f(x) behind = show 1; method f(x) in L = 5;"
            + "method f(x: Fault) = 6; method f(x == 7) = 7; method f(x) if 8 < x = 8;");
        CHECK.faults("f(0)", 1);
        CHECK.ran();
        CHECK.showed();
        CHECK.faults("f(8)", 1);
        CHECK.gives("f(7)", 1);
        CHECK.ran(1);
        CHECK.gives("f(9)", 1);
        CHECK.gives("with L do f(0)", 1);
        // FAULT 1 though the around ones are SEVERAL
        CHECK.tell("method f(x) around if x < 5 = 1; method f(x) around if x < 3 or x == 100 = 1;");
        CHECK.faults("f(0)", 1);
    }

    private static void firstAround() {
        CHECK.sentence("The first of the around ones runs (SEVERAL: FAULT 2)");
        CHECK.tell("call f(1) best left; method f(x) = show 1; method f(x) before = show 2; method f(x) behind = show 3; method f(x) around = 4;"
            + "method f(x: Int) around = 5;");
        CHECK.gives("f(0)", 5);
        CHECK.ran(5);
        CHECK.showed();
        CHECK.gives("f(Fault(0))", 4);
        CHECK.tell("method f(x: Int) around if x < 5 = 6; method f(x: Int) around if 3 < x = 7;");
        CHECK.gives("f(3)", 6);
        CHECK.gives("f(5)", 7);
        CHECK.faults("f(4)", 2);
        CHECK.ran();
        CHECK.tell("call s(1) sum left; method s(x) = 1; method s(x) around if x < 5 = 6; method s(x) around if 3 < x = 7;");
        CHECK.faults("s(4)", 2);
        CHECK.ran();
    }

    private static void nextAround() {
        CHECK.sentence("next in it runs the next one of them (SEVERAL: FAULT 2), in the last one what is INSIDE");
        CHECK.tell("call f(1) best left; method f(x) = 1; method f(x) around = next + 10; method f(x: Int) around = next + 100; method f(x) before = 0;");
        CHECK.gives("f(0)", 111);
        CHECK.ran(3, 2, 4, 1);
        CHECK.tell("method f(x: Int) around if x == 4 = next + 1000; method f(x) around if x < 5 = 0; method f(x) around if 3 < x = 0;");
        CHECK.faults("f(4)", 2);
        CHECK.ran(5, 3);
        CHECK.tell("call g(1) sum left; method g(x) = 1; method g(x) around = next + next;");
        CHECK.gives("g(0)", 2);
        CHECK.ran(9, 8, 8);
    }

    private static void withoutAround() {
        CHECK.sentence("Without any: INSIDE. Its value is the CALL's");
        CHECK.tell("kind A; call f(1) best left; method f(x) = A(5); call g(1) best left; method g(x) = 1; method g(x) around = A(6);");
        CHECK.run("f(0)", 0, 3, 5);
        CHECK.run("g(0)", 0, 3, 6);
        CHECK.tell("call s(1) sum left; method s(x) = A(5); method s(x) around = A(next);");
        CHECK.run("s(0)", 0, 3, 5);
        CHECK.due("drop", CHECK.house().drop(5), true);
        CHECK.run("s(0)", 0, 1, 5);
    }

    private static void insideBeginsWithSeveral() {
        CHECK.sentence("INSIDE: best: if the plain ROW begins with SEVERAL: FAULT 2 (before the before ones run)");
        CHECK.tell("call f(1) best left; method f(x) if x < 5 = 1; method f(x) if 3 < x = 2; method f(x) before = show 0;");
        CHECK.gives("f(3)", 1);
        CHECK.showed(0);
        CHECK.faults("f(4)", 2);
        CHECK.ran();
        CHECK.showed();
        CHECK.tell("method f(x: Int) around = try next on y do #y + 40; method f(x: Int) around if x == 6 = 9;");
        CHECK.gives("f(4)", 42);
        CHECK.ran(4);
        // an around one that does not go on never comes to it
        CHECK.tell("call g(1) best left; method g(x) if x < 5 = 1; method g(x) if 3 < x = 2; method g(x) around = 7;");
        CHECK.gives("g(4)", 7);
        CHECK.tell("call s(1) sum left; method s(x) if x < 5 = 1; method s(x) if 3 < x = 2;");
        CHECK.gives("s(4)", 3);
    }

    private static void beforeThenFirst() {
        CHECK.sentence("The before ones run; then best: the first plain one");
        CHECK.tell("call f(1) best left; method f(x) = show 1; method f(x: Int) = show 2; method f(x) before = show 3; method f(x: Int) before = show 4;");
        CHECK.gives("f(0)", 2);
        CHECK.showed(4, 3, 2);
        CHECK.tell("method f(x: Int == 5) before = fail 50;");
        CHECK.run("f(5)", 1, 1, 50);
        CHECK.showed();
    }

    private static void nextPlain() {
        CHECK.sentence("next in it the next one (none: FAULT 1, SEVERAL: FAULT 2)");
        CHECK.tell("call f(1) best left; method f(x) = next; method f(x: Int) = next + 1; method f(x: Int == 7) = try next on y do #y + 70;");
        CHECK.faults("f(0)", 1);
        CHECK.ran(2, 1);
        CHECK.gives("f(7)", 71);
        CHECK.ran(3, 2, 1);
        CHECK.tell("call g(1) best left; method g(x: Int) = next; method g(x) if x < 5 = 1; method g(x) if 3 < x = 2;");
        CHECK.gives("g(3)", 1);
        CHECK.gives("g(5)", 2);
        CHECK.faults("g(4)", 2);
        CHECK.ran(4);
    }

    private static void nextInJoined() {
        CHECK.sentence("Others: the plain ones one by one (next in them: FAULT 1)");
        for (String join : "sum all any least".split(" ")) {
            CHECK.anew();
            CHECK.tell("call f(1) JOIN left; method f(x) = 2; method f(x: Int) = next;".replace("JOIN", join));
            CHECK.faults("f(0)", 1);
            CHECK.ran(2);
            CHECK.tell("method f(x: Fault) = try next(5) on y do #y + 6;");
            CHECK.run("f(Fault(0))", 0, 1, join.equals("sum") ? 9 : join.equals("least") ? 2 : 1);
        }
    }

    private static void argumentsOfInside() {
        CHECK.sentence("each with the arguments of INSIDE");
        CHECK.tell("call f(2) sum left; method f(x, y) = let x = 9 then show y; method f(x: Int, y) = show 10 * x + y; method f(x, y) before = show x;"
            + "method f(x, y) behind = show y; method f(x, y) around = next(y, x);");
        CHECK.gives("f(1, 2)", 22);
        CHECK.showed(2, 21, 1, 1);
    }

    private static void sums() {
        CHECK.sentence("sum: Int of the sum of their numbers");
        CHECK.tell("kind A; call f(1) sum left; method f(x) = A(2147483647); method f(x: Int) = 1; method f(x: Int == 5) = -2147483647;");
        CHECK.run("f(Fault(0))", 0, 1, 2147483647);
        CHECK.run("f(0)", 0, 1, -2147483648);
        CHECK.run("f(5)", 0, 1, 1);
    }

    private static void leasts() {
        CHECK.sentence("least: of the least");
        CHECK.tell("kind A; call f(1) least left; method f(x) = A(2147483647); method f(x: Int) = A(#x);");
        CHECK.run("f(Fault(0))", 0, 1, 2147483647);
        CHECK.run("f(0)", 0, 1, 0);
        CHECK.run("f(-2147483647 - 1)", 0, 1, -2147483648);
        CHECK.run("f(2147483647)", 0, 1, 2147483647);
    }

    private static void alls() {
        CHECK.sentence("all: Int 0 as soon as one's number is 0 (no further ones run), else 1");
        CHECK.tell("kind A; call f(1) all left; method f(x) = A(5); method f(x: Int) = A(x); method f(x: Int == -1) = -1; method f(x) behind = show 7;");
        CHECK.run("f(Fault(0))", 0, 1, 1);
        CHECK.ran(1, 4);
        CHECK.run("f(0)", 0, 1, 0);
        CHECK.ran(2, 4);
        CHECK.showed(7);
        CHECK.run("f(-1)", 0, 1, 1);
        CHECK.ran(3, 2, 1, 4);
        CHECK.tell("method f(x: Fault) = 3; method f(x) if x == 9 = 0;");
        CHECK.run("f(Fault(9))", 0, 1, 0);
        CHECK.ran(5, 6, 4);
    }

    private static void anys() {
        CHECK.sentence("any: Int 1 as soon as one's number is not 0, else 0");
        CHECK.tell("kind A; call f(1) any left; method f(x) = A(0); method f(x: Int) = A(x); method f(x: Int == 0) = 0; method f(x) behind = show 7;");
        CHECK.run("f(Fault(0))", 0, 1, 0);
        CHECK.ran(1, 4);
        CHECK.run("f(-5)", 0, 1, 1);
        CHECK.ran(2, 4);
        CHECK.showed(7);
        CHECK.run("f(0)", 0, 1, 0);
        CHECK.ran(3, 2, 1, 4);
    }

    private static void behindTheLastFirst() {
        CHECK.sentence("Then the behind ones run, the last of their ROW first");
        CHECK.tell("kind A; layer L; call f(1) best left; method f(x) = show 1; method f(x) behind = show 2; method f(x: A) behind = show 3;"
            + "method f(x: A == 0) behind = show 4; method f(x) behind in L = show 5; method f(x) before = show 6;");
        CHECK.gives("f(A(0))", 1);
        CHECK.showed(6, 1, 2, 3, 4);
        CHECK.gives("with L do f(A(0))", 1);
        CHECK.showed(6, 1, 2, 3, 4, 5);
        CHECK.tell("method f(x: A == 9) = fail 90;");
        CHECK.run("f(A(9))", 1, 1, 90);
        CHECK.showed(6);
    }

    private static void nextInBeforeAndBehind() {
        CHECK.sentence("Next in before and behind ones: FAULT 1");
        CHECK.tell("call f(1) best left; method f(x) = 1; method f(x: Int) = 2; method f(x: Int) before = next; method f(x) before = show 5;"
            + "method f(x: Fault) behind = next(3); method f(x) behind = show 6;");
        CHECK.faults("f(0)", 1);
        CHECK.ran(3);
        CHECK.faults("f(Fault(0))", 1);
        CHECK.ran(4, 1, 6, 5);
        CHECK.tell("call s(1) sum left; method s(x) = 1; method s(x) before = try next on y do show y; method s(x) behind = try next(1) on y do show #y + 1;");
        CHECK.gives("s(0)", 1);
        CHECK.showed(1, 2);
    }

    private static void whatTheyGive() {
        CHECK.sentence("What they give is dropped");
        CHECK.tell("kind A; call f(1) best left; method f(x) = 1; method f(x) before = A(70); method f(x) behind = A(80);");
        CHECK.gives("f(0)", 1);
        for (String join : "sum all any least".split(" ")) {
            CHECK.tell("call J(1) J1 left; method J(x) = 1; method J(x) before = 0 - 5; method J(x) behind = 0;".replace("J1", join).replace("J", join + "_"));
            CHECK.gives(join + "_(0)", 1);
        }
    }

    private static void nextGoesOn() {
        CHECK.sentence("next goes on with the method's arguments");
        CHECK.tell("call f(3) best left; method f(x, y, z) = 100 * x + 10 * y + z; method f(x: Int, y, z) = let x = 9 then let z = 9 then next;"
            + "method f(x: Int, y: Int, z) = let y = 8 then next(y, x, 7); method f(x, y, z) around = let q = 1 then next;");
        CHECK.gives("f(1, Fault(2), 3)", 123);
        CHECK.ran(4, 2, 1);
        CHECK.gives("f(1, 2, 3)", 817);
        CHECK.ran(4, 3, 2, 1);
        // other calls and other nexts before it do not matter
        CHECK.tell("call g(1) best left; method g(x) = #x; method g(x: Int) = g(Fault(70)) + next(40) + next;"
            + "method g(x: Int) around = next(5) * 10000 + next;");
        CHECK.gives("g(3)", (70 + 40 + 5) * 10000 + 70 + 40 + 3);
        CHECK.tell("call s(2) sum left; method s(x, y) = g(7) - g(7) + 10 * x + y; method s(x: Int, y) = 10 * x + y; method s(x, y) before = g(8);"
            + "method s(x, y) behind = show 10 * x + y;");
        CHECK.gives("s(1, 2)", 24);
        CHECK.showed(12);
    }

    private static void nextWithArguments() {
        CHECK.sentence("next ( ) with those said: the next one, or INSIDE and all in it, get these");
        CHECK.tell("kind A; call f(1) best left; method f(x) = show x; method f(x) before = show x; method f(x) behind = show x;"
            + "method f(x) around = next(x * 10); method f(x: Int) around = next(x + 1); method f(x: Int) = next(A(x + 5));");
        CHECK.run("f(1)", 0, 3, 25);
        CHECK.showed(20, 25, 20);
        CHECK.tell("call s(2) sum left; method s(x, y) = show x; method s(x: Int, y) = show y; method s(x, y) before = show x - y;"
            + "method s(x, y) around = next(y, x) + next(7, 8);");
        CHECK.gives("s(1, 2)", 3 + 15);
        CHECK.showed(1, 1, 2, -1, 8, 7);
    }

    private static void nothingChosenAnew() {
        CHECK.sentence("Nothing is chosen anew");
        CHECK.tell("kind A; layer L; call f(1) best left; method f(x) = 1; method f(x: Int) = next + 10; method f(x: A) = next + 100;"
            + "method f(x) in L = next + 1000; method f(x) around = with L do next(A(5)); method f(x: A) before = show 6; method f(x: Int == 5) = next + 10000;");
        CHECK.gives("f(1)", 11);
        CHECK.ran(5, 2, 1);
        CHECK.due("one call was chosen for", CHECK.house().told(6), 7);
        CHECK.gives("with L do f(1)", 1011);
        CHECK.tell("call g(1) best left; method g(x) = f(1); method g(x: Int) around = with L do next;");
        CHECK.gives("g(1)", 1011);
    }

    private static void eachCallByItsOwn() {
        CHECK.sentence("ROW of methods: those that APPLY (of each CALL by its own kinds, numbers and layers)");
        StringBuilder kinds = new StringBuilder("kind A; kind B; kind C < A, B;");
        for (int k = 6; k <= 20; k++) {
            kinds.append("kind K").append(k).append(';');
        }
        CHECK.tell(kinds + "kind D < B, A;");
        CHECK.tell("call f(1) best left; method f(x: A) = 1; method f(x: B) = 2;");
        CHECK.gives("f(C(0)) * 1000 + f(D(0)) * 100 + f(C(0)) * 10 + f(D(0))", 1212);
        CHECK.tell("call g(2) best left; method g(x, y: A) = 1; method g(x, y: B) = 2;");
        CHECK.gives("g(1, C(0)) * 10 + g(1, D(0))", 12);
        CHECK.gives("g(1, D(0)) * 10 + g(1, C(0))", 21);
        CHECK.gives("g(C(0), D(0)) * 10 + g(D(0), C(0))", 21);
        CHECK.tell("call h(1) best left; method h(x) = 1; method h(x) if 0 < x = 2; method h(x == 5) = 3;");
        CHECK.gives("h(0) * 1000 + h(1) * 100 + h(5) * 10 + h(0)", 1231);
        CHECK.tell("layer L; layer M; call s(1) best left; method s(x) = 1; method s(x) in L = 2; method s(x) in M = 3;");
        CHECK.gives("(with L do with M do s(0)) * 10 + (with M do with L do s(0))", 32);
        // methods behind the 64th
        StringBuilder many = new StringBuilder("call z(1) best left;");
        for (int m = CHECK.house().count(2) + 1; m <= 64; m++) {
            many.append("method z(x == ").append(m).append(") = 1;");
        }
        CHECK.tell(many + "call t(1) best left; method t(x) = 1; method t(x) if 0 < x = 2; method t(x == 5) = 3;");
        CHECK.due("methods", CHECK.house().count(2), 67);
        CHECK.gives("t(5) * 1000 + t(1) * 100 + t(0) * 10 + t(5)", 3213);
    }

    private static void manyAlike() {
        DispatchHouse house = CHECK.sentence("the one to which none of those left is NEARER, again and again (of a hundred, in the midst of much)");
        StringBuilder text = new StringBuilder("call f(1) best left;");
        for (int i = 0; i < 98; i++) {
            text.append("method f(x)if x<").append(500 - i).append("=next;");
        }
        CHECK.tell(text + "method f(x) = 7; method f(x) if x < 9 = try f(x) on e do f(x);");
        house.set(2, 100000);
        CHECK.program("f(0)");
        CHECK.due("a run without end", house.run(), 4);
        CHECK.due("its STEPS", house.told(3), 100000);
        CHECK.due("its LOOKS", house.told(6) % 100, 0);
        // 478 to 500 and the last one are 24; one more would be too many in one another
        CHECK.gives("f(477)", 7);
        CHECK.due("methods that began", house.told(5), 24);
        CHECK.due("RAN", house.ran(), 48);
        CHECK.due("the nearest is that for 478", house.word(0), 23L << 48 | 22L << 32 | 21L << 16 | 20);
        CHECK.due("the last one", house.word(46), 99L << 48);
        CHECK.faults("f(476)", 4);
    }
}
