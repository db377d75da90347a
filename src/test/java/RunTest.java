/** Promises 14 to 18: runs, and what is told, shown and listed of them. */
public final class RunTest {
    private static final Check CHECK = new Check();

    public static void main(String[] args) {
        values();
        steps();
        fuel();
        failing();
        orderOfMethods();
        nextWithArguments();
        nextThatIsNone();
        several();
        joined();
        layers();
        layersInRows();
        eightLayers();
        layersComeBack();
        methodsInOneAnother();
        tests();
        choosingTellsTheSame();
        showing();
        listing();
        wrongAsking();
        CHECK.done();
    }

    private static String times(int n, String part, String between) {
        StringBuilder all = new StringBuilder(part);
        for (int i = 1; i < n; i++) {
            all.append(between).append(part);
        }
        return all.toString();
    }

    private static void values() {
        CHECK.anew();
        CHECK.tell("kind A; kind B < A bare; kind C < B;");
        CHECK.gives("1 + 2 * 3 - 4", 3);
        CHECK.gives("10 - 3 - 2", 5);
        CHECK.gives("100 / 7 / 2", 7);
        CHECK.gives("-7 / 2", -3);
        CHECK.gives("7 / -2", -3);
        CHECK.gives("2147483647 + 1", Integer.MIN_VALUE);
        CHECK.gives("(-2147483647 - 1) / -1", Integer.MIN_VALUE);
        CHECK.gives("-2147483647 - 2", Integer.MAX_VALUE);
        CHECK.gives("65536 * 65536 + 65537 * 65537", 131073);
        CHECK.faults("1 / 0", 3);
        CHECK.faults("0 / (1 - 1)", 3);
        CHECK.gives("1 < 2", 1);
        CHECK.gives("2 < 2", 0);
        CHECK.gives("2 <= 2", 1);
        CHECK.gives("3 <= 2", 0);
        CHECK.gives("C(2) == 2", 1);
        CHECK.gives("2 == 3", 0);
        CHECK.run("C(5)", 0, 5, 5);
        CHECK.run("C(A(6))", 0, 5, 6);
        CHECK.gives("C(5) + A(6)", 11);
        CHECK.gives("#C(5)", 5);
        CHECK.gives("C(5) is A", 1);
        CHECK.gives("C(5) is B", 1);
        CHECK.gives("C(5) is Any", 1);
        CHECK.gives("A(5) is C", 0);
        CHECK.gives("5 is Int", 1);
        CHECK.gives("Fault(5) is Int", 0);
        CHECK.gives("if C(0) then 1 else 2", 2);
        CHECK.gives("if -1 then 1 else 2", 1);
        CHECK.gives("let x = 1 then let y = x + 1 then let x = 10 * y then x + y", 22);
        CHECK.gives("let x = 1 then (let x = 2 then x) + x", 3);
        CHECK.gives("let x = 3 then let x = x + x then x", 6);
        CHECK.run("show C(5)", 0, 5, 5);
        CHECK.showed(5);
        CHECK.gives("if 1 then 2 else 3 + 4", 2);
    }

    private static void steps() {
        CHECK.anew();
        CHECK.tell("kind A; layer L; call f(2) best left; method f(x, y) = x + y; method f(x: Int, y: Int) around = next;"
            + "method f(x, y) before = 0;");
        Object[][] want = {{"1", 1}, {"(((1)))", 1}, {"-1", 1}, {"1 + 2", 3}, {"1 + 2 * 3", 5}, {"1 < 2", 3}, {"1 is Int", 2},
            {"#1", 2}, {"A(1)", 2}, {"let x = 1 then x", 3}, {"if 1 then 2 else 3 + 4", 3}, {"if 0 then 2 else 3 + 4", 5},
            {"with L do 1", 2}, {"without L do 1", 2}, {"try 1 on x do 2", 2}, {"try fail 1 on x do x", 4}, {"show 1", 2},
            {"f(1, 2)", 8}, {"f(A(1), 2)", 8}, {"f(1, 2) - f(A(1), 2)", 17}};
        for (Object[] one : want) {
            CHECK.program((String) one[0]);
            CHECK.house().run();
            CHECK.due("STEPS of " + one[0], CHECK.house().told(3), (Integer) one[1]);
        }
        // a node is a step as it begins: both + and / are, before the fault
        CHECK.faults("1 + 2 / 0 + 3", 3);
        CHECK.steps(6);
        CHECK.run("fail 1 + 2", 1, 1, 3);
        CHECK.steps(4);
        CHECK.run("(fail 5) + 2", 1, 1, 5);
        CHECK.steps(3);
    }

    private static void fuel() {
        DispatchHouse house = CHECK.anew();
        CHECK.tell("call f(1) best left; method f(x) = let y = show x then f(x + 1); method f(x: Fault) = try f(1) on y do y;");
        house.set(2, 2);
        CHECK.run("1 + 1", 4, -1, 0);
        CHECK.steps(2);
        house.set(2, 3);
        CHECK.gives("1 + 1", 2);
        CHECK.run("try 1 + 1 on x do 7", 4, -1, 0);
        CHECK.steps(3);
        house.set(2, 1);
        CHECK.gives("1", 1);
        CHECK.run("show 1", 4, -1, 0);
        CHECK.showed();
        house.set(2, 20);
        CHECK.run("f(1)", 4, -1, 0);
        // f and 1, then let, show, x, f, +, x and 1 for each method
        CHECK.steps(20);
        CHECK.showed(1, 2, 3);
        CHECK.ran(1, 1, 1);
        house.set(2, 100000);
        CHECK.faults("f(1)", 4);
        CHECK.steps(2 + 24 * 7);
    }

    private static void failing() {
        CHECK.anew();
        CHECK.tell("kind A; call f(1) best left; method f(x: Int) = fail A(x); method f(x: A) = 1 / x;");
        CHECK.run("f(7)", 1, 3, 7);
        CHECK.gives("try f(7) on x do if x is A then #x + 1 else 0", 8);
        CHECK.faults("f(A(0))", 3);
        CHECK.gives("try f(A(0)) on x do x is Fault", 1);
        CHECK.run("try fail 1 on x do fail x + 1", 1, 1, 2);
        CHECK.gives("try (try fail 1 on x do fail x + 1) on y do y + 10", 12);
        CHECK.gives("try try fail 1 on x do x + 1 on y do y + 10", 2);
        CHECK.run("let x = 5 then try fail A(1) on x do x", 0, 3, 1);
        CHECK.gives("let x = 5 then (try fail 1 on x do x) + x", 6);
        CHECK.gives("1 + (try 2 + f(3) on x do x) + 4", 8);
        CHECK.gives("try 3 on x do 4", 3);
        CHECK.gives("1 + (try 2 on x do 3) * 10 + 4", 25);
        CHECK.gives("try (try 1 on x do 2) + (fail 3) on y do y + 4", 7);
        CHECK.run("(try 1 on x do 2) + (fail 3)", 1, 1, 3);
        CHECK.run("fail fail A(2)", 1, 3, 2);
        CHECK.run("show fail A(2)", 1, 3, 2);
        CHECK.showed();
    }

    private static void orderOfMethods() {
        CHECK.anew();
        CHECK.tell("call f(1) best left;"
            + "method f(x) = show 1;"
            + "method f(x: Int) = let a = show 2 then next;"
            + "method f(x) around = let a = show 3 then let r = next then let b = show 4 then r;"
            + "method f(x: Int) around = let a = show 5 then next;"
            + "method f(x) before = show 6;"
            + "method f(x: Int) before = show 7;"
            + "method f(x) behind = show 8;"
            + "method f(x: Int) behind = show 9;");
        CHECK.gives("f(0)", 1);
        CHECK.showed(5, 3, 7, 6, 2, 1, 8, 9, 4);
        CHECK.ran(4, 3, 6, 5, 2, 1, 7, 8);
        CHECK.gives("f(Fault(0))", 1);
        CHECK.showed(3, 6, 1, 8, 4);
        CHECK.ran(3, 5, 1, 7);
        CHECK.tell("method f(x: Int == 9) around = 99;");
        CHECK.gives("f(9)", 99);
        CHECK.ran(9);
        CHECK.tell("method f(x: Int == 8) around = next + next;");
        CHECK.gives("f(8)", 2);
        CHECK.ran(10, 4, 3, 6, 5, 2, 1, 7, 8, 4, 3, 6, 5, 2, 1, 7, 8);
        CHECK.tell("method f(x: Int == 7) before = fail 70; method f(x: Int == 6) behind = fail 60;");
        CHECK.run("f(7)", 1, 1, 70);
        CHECK.ran(4, 3, 11);
        CHECK.run("f(6)", 1, 1, 60);
        CHECK.ran(4, 3, 6, 5, 2, 1, 7, 8, 12);
    }

    private static void nextWithArguments() {
        CHECK.anew();
        CHECK.tell("kind A; call f(2) best left;"
            + "method f(x, y) = 100 * x + y;"
            + "method f(x: Int, y) = next(x + 1, y + 1);"
            + "method f(x: Int, y: Int) = let x = 50 then next;"
            + "method f(x: Int == 7, y: Int) = next(A(70), Fault(2));"
            + "method f(x, y) before = show 10 * x + y;"
            + "method f(x, y) behind = show 20 * x + y;"
            + "method f(x, y) around = next(y, x);"
            + "method f(x, y: A) around = next;");
        CHECK.gives("f(1, 2)", 302);
        CHECK.showed(21, 41);
        CHECK.ran(7, 5, 3, 2, 1, 6);
        CHECK.gives("f(1, A(2))", 302);
        // the methods were chosen for 1 and A: the second applies, the third does not
        CHECK.ran(8, 7, 5, 2, 1, 6);
        // method 4 applies by the 7 that was given, and hands on a kind that no method after it asks for
        CHECK.gives("f(7, 1)", 7100 + 3);
        CHECK.ran(7, 5, 4, 3, 2, 1, 6);
        CHECK.tell("call g(1) best left; method g(x: A) = #x; method g(x: A) around = next(Fault(5));");
        CHECK.gives("g(A(1))", 5);
        CHECK.tell("method g(x: A == 2) around = next(A(1 / 0));");
        CHECK.faults("g(A(2))", 3);
    }

    private static void nextThatIsNone() {
        CHECK.anew();
        CHECK.tell("call f(1) best left; method f(x) = next; method f(x: Fault) = try next on y do #y + 40;");
        CHECK.faults("f(1)", 1);
        CHECK.ran(1);
        CHECK.gives("f(Fault(1))", 41);
        CHECK.tell("call g(1) best left; method g(x) = 1; method g(x) before = next;");
        CHECK.faults("g(1)", 1);
        CHECK.ran(4);
        CHECK.tell("call h(1) best left; method h(x) = 1; method h(x) behind = next(show 5);");
        CHECK.faults("h(1)", 1);
        CHECK.showed(5);
        CHECK.ran(5, 6);
        CHECK.tell("call s(1) sum left; method s(x) = 1; method s(x: Int) = try next on y do 7; method s(x: Fault) = next(x);");
        CHECK.gives("s(1)", 8);
        CHECK.ran(8, 7);
        CHECK.faults("s(Fault(1))", 1);
        CHECK.tell("call n(1) best left; method n(x) around = 1;");
        CHECK.faults("n(1)", 1);
        CHECK.ran();
    }

    private static void several() {
        CHECK.anew();
        CHECK.tell("kind A; call f(2) best each; method f(x: A, y) = 1; method f(x, y: A) = 2; method f(x, y) before = 0;"
            + "method f(x: Int, y) around = next;");
        CHECK.gives("f(A(0), 0)", 1);
        CHECK.gives("f(0, A(0))", 2);
        CHECK.faults("f(A(0), A(0))", 2);
        CHECK.ran();
        CHECK.tell("method f(x: A, y: A) = next;");
        CHECK.faults("f(A(0), A(0))", 2);
        CHECK.ran(3, 5);
        CHECK.tell("method f(x: A, y) around = next; method f(x, y: A) around = next;");
        CHECK.faults("f(A(0), A(0))", 2);
        CHECK.ran();
        CHECK.tell("method f(x: A, y: A) around = next + 1;");
        CHECK.faults("f(A(0), A(0))", 2);
        CHECK.ran(8);
        // FAULT 1 goes before FAULT 2
        CHECK.tell("call g(2) best each; method g(x: A, y) around = 1; method g(x, y: A) around = 1;");
        CHECK.faults("g(A(0), A(0))", 1);
        // an around method that runs, and SEVERAL inside it
        CHECK.tell("call h(2) best each; method h(x: A, y) = 1; method h(x, y: A) = 2; method h(x, y) around = next;"
            + "method h(x, y) before = 0;");
        CHECK.faults("h(A(0), A(0))", 2);
        CHECK.ran(13);
        // before and behind ones go by their numbers then
        CHECK.tell("call k(2) best each; method k(x, y) = 1; method k(x, y: A) before = 2; method k(x: A, y) before = 2;"
            + "method k(x: A, y: A) before = 2; method k(x, y: A) behind = 2; method k(x: A, y) behind = 2;");
        CHECK.gives("k(A(0), A(0))", 1);
        CHECK.ran(18, 16, 17, 15, 20, 19);
        // tests: neither asks more
        CHECK.tell("call t(1) best near; method t(x) if x < 5 = 1; method t(x) if 3 < x = 2; method t(x: Int) if x == 9 = 3;");
        CHECK.gives("t(3)", 1);
        CHECK.faults("t(4)", 2);
        CHECK.gives("t(5)", 2);
        CHECK.gives("t(9)", 3);
    }

    private static void joined() {
        CHECK.anew();
        for (String join : "sum all any least".split(" ")) {
            CHECK.tell("call " + join + "1(1) JOIN left; method J(x) = #x; method J(x: Int) = #x - 1; method J(x: Int) if x < 9 = 2;"
                .replace("JOIN", join).replace("J(", join + "1("));
            CHECK.tell("method J(x) before = show 50; method J(x) behind = show 60;".replace("J(", join + "1("));
        }
        CHECK.gives("sum1(5)", 2 + 4 + 5);
        CHECK.ran(4, 3, 2, 1, 5);
        CHECK.showed(50, 60);
        CHECK.gives("sum1(Fault(5))", 5);
        CHECK.gives("all1(5)", 1);
        CHECK.ran(9, 8, 7, 6, 10);
        CHECK.gives("all1(1)", 0);
        CHECK.ran(9, 8, 7, 10);
        CHECK.gives("all1(Fault(0))", 0);
        CHECK.gives("any1(5)", 1);
        CHECK.ran(14, 13, 15);
        CHECK.gives("any1(Fault(0))", 0);
        CHECK.ran(14, 11, 15);
        CHECK.gives("least1(5)", 2);
        CHECK.ran(19, 18, 17, 16, 20);
        CHECK.gives("least1(-5)", -6);
        CHECK.gives("least1(Fault(2147483647))", 2147483647);
        CHECK.tell("kind A; call w(1) sum left; method w(x) = 2147483647; method w(x: A) = A(1); method w(x) around = next + next;");
        CHECK.gives("w(A(1))", 0);
        CHECK.gives("w(1)", -2);
        // ones without order go by their numbers
        CHECK.tell("call v(2) sum each; method v(x, y: A) = show 1; method v(x: A, y) = show 2; method v(x: A, y: A) = show 4;"
            + "method v(x, y) = show 8;");
        CHECK.gives("v(A(0), A(0))", 15);
        CHECK.showed(4, 1, 2, 8);
        CHECK.faults("all1(0) + w(1 / 0)", 3);
        // the third is nearer than the second, the first has no order with them
        CHECK.tell("kind B < A; call u(2) sum each; method u(x, y: B) = show 1; method u(x: A, y) = show 2; method u(x: B, y) = show 4;");
        CHECK.gives("u(B(0), B(0))", 7);
        CHECK.showed(1, 4, 2);
    }

    private static void layers() {
        CHECK.anew();
        CHECK.tell("layer L; layer M; call f(1) best left; method f(x) = 1; method f(x: Int) in L = next + 10;"
            + "method f(x) in M = next + 100;");
        CHECK.gives("f(0)", 1);
        CHECK.ran(1);
        CHECK.gives("with L do f(0)", 11);
        CHECK.ran(2, 1);
        CHECK.gives("with M do f(0)", 101);
        CHECK.gives("with L do with M do f(0)", 111);
        CHECK.ran(3, 2, 1);
        CHECK.gives("with M do with L do f(0)", 111);
        CHECK.ran(2, 3, 1);
        CHECK.gives("with L do with M do with L do f(0)", 111);
        CHECK.ran(2, 3, 1);
        CHECK.gives("with L do with M do without L do f(0)", 101);
        CHECK.gives("with L do (without L do f(0)) + f(0)", 12);
        CHECK.gives("without M do f(0)", 1);
        CHECK.gives("(with L do 0) + f(0)", 1);
        CHECK.gives("with L do with L do (without L do f(0)) + f(0)", 12);
        CHECK.gives("with M do f(Fault(0)) + (with L do f(Fault(0)))", 202);
        // only methods of layers that are off
        CHECK.tell("call g(1) best left; method g(x) in L = 5;");
        CHECK.faults("g(0)", 1);
        CHECK.gives("with L do g(0)", 5);
        CHECK.faults("with L do without L do g(0)", 1);
        // layers reach into the methods that are called
        CHECK.tell("call h(1) best left; method h(x) = f(x); method h(x: Int) = with M do next;");
        CHECK.gives("h(0)", 101);
        CHECK.gives("h(Fault(0))", 1);
    }

    private static void layersInRows() {
        CHECK.anew();
        CHECK.tell("kind A; layer L; layer M; call f(2) best each; method f(x: A, y: A) = 1; method f(x, y) in L = next + 10;"
            + "method f(x: A, y) in M = 100; method f(x, y: A) in M = 200;");
        CHECK.gives("with L do f(A(0), A(0))", 11);
        CHECK.faults("with M do f(A(0), A(0))", 2);
        CHECK.faults("with L do with M do f(A(0), A(0))", 2);
        CHECK.ran();
        CHECK.faults("with M do with L do f(A(0), A(0))", 2);
        CHECK.ran(2);
        // several in a layer do not hold up those that may be laid by their numbers
        CHECK.tell("call g(2) sum each; method g(x, y) = 1; method g(x, y: A) in L = 2; method g(x: A, y) in L = 3;"
            + "method g(x, y) around in L = next + 1000; method g(x, y) around = next + 1000;"
            + "method g(x, y) before in M = 0; method g(x, y) behind in M = 0; method g(x, y) behind = 0;");
        CHECK.gives("with L do with M do g(A(0), A(0))", 2006);
        CHECK.ran(8, 9, 10, 6, 7, 5, 12, 11);
        // what is chosen stays chosen
        CHECK.tell("call h(1) best left; method h(x) = 1; method h(x) in L = next + 10; method h(x) around = with L do next;"
            + "method h(x: Int) around in L = without L do next;");
        CHECK.gives("h(0)", 1);
        CHECK.gives("with L do h(0)", 11);
        CHECK.ran(16, 15, 14, 13);
    }

    private static void eightLayers() {
        CHECK.anew();
        CHECK.tell("call f(1) best left; method f(x) = 1;");
        for (int i = 1; i <= 8; i++) {
            CHECK.tell("layer L" + i + "; method f(x) in L" + i + " = next * 3 + " + i + ";");
        }
        // the last one put on is the outermost
        CHECK.gives("with L1 do with L2 do with L3 do with L4 do with L5 do with L6 do with L7 do with L8 do f(0)", 11477);
        CHECK.ran(9, 8, 7, 6, 5, 4, 3, 2, 1);
        CHECK.tell("call g(1) best left; method g(x) = with L1 do f(x);");
        CHECK.gives("with L1 do with L2 do with L3 do with L4 do with L5 do with L6 do with L7 do with L8 do g(0)", 14749);
        CHECK.ran(10, 2, 9, 8, 7, 6, 5, 4, 3, 1);
    }

    private static void layersComeBack() {
        CHECK.anew();
        CHECK.tell("layer L; layer M; call f(1) best left; method f(x) = 1; method f(x) in L = next + 10; method f(x) in M = next + 100;"
            + "call g(1) best left; method g(x) = with L do with M do fail x; method g(x: Int) = without L do next;");
        CHECK.gives("(try with L do fail 1 on x do f(x)) + f(0)", 2);
        CHECK.gives("with L do (try g(0) on x do f(0)) * 1000 + f(0)", 11011);
        CHECK.gives("with M do (try without M do 1 / 0 on x do f(0)) * 1000 + f(0)", 101101);
        // the layers of one run do not reach into the next one
        CHECK.run("with L do fail 1", 1, 1, 1);
        CHECK.gives("f(0)", 1);
        CHECK.house().set(2, 3);
        CHECK.program("with L do 1 + 1 + 1");
        CHECK.due("ends", CHECK.house().run(), 4);
        CHECK.house().set(2, 100);
        CHECK.gives("f(0)", 1);
    }

    private static void methodsInOneAnother() {
        CHECK.anew();
        CHECK.tell("call f(1) best left; method f(x) = if x then f(x - 1) + 1 else 0;");
        CHECK.gives("f(23)", 23);
        CHECK.due("methods that began", CHECK.house().told(5), 24);
        CHECK.faults("f(24)", 4);
        CHECK.due("methods that began", CHECK.house().told(5), 24);
        CHECK.due("LOOKS", CHECK.house().told(6), 25);
        CHECK.tell("method f(x: Fault) = try f(30) on y do y; method f(x: Int == 5) around = next;");
        CHECK.run("f(Fault(0))", 0, 2, 4);
        CHECK.gives("f(22)", 22);
        CHECK.faults("f(23)", 4);
        // the methods that have ended do not count
        CHECK.gives("f(20) + f(20) + f(22)", 62);
        CHECK.tell("call g(1) best left; call h(1) best left; method g(x) = if x then g(x - 1) else h(0);");
        CHECK.tell("method h(x) = 1; method h(x) before = 0; method h(x) behind = 0;");
        CHECK.gives("g(22)", 1);
        CHECK.faults("g(23)", 4);
        CHECK.due("methods that began", CHECK.house().told(5), 24);
        CHECK.gives("try g(23) on x do g(22)", 1);
    }

    private static void tests() {
        CHECK.anew();
        CHECK.tell("kind A; kind B < A; call f(2) best left; method f(x, y) = 0;"
            + "method f(x, y) if x < y = 1;"
            + "method f(x, y) if x < y and y is A = 2;"
            + "method f(x, y) if x == y + 2147483647 = 3;"
            + "method f(x == -5, y) if not (y < 0 or y == 7) and y + 1 <= 10 = 4;");
        CHECK.gives("f(1, 1)", 0);
        CHECK.gives("f(1, 2)", 1);
        // for these kinds both ask the same
        CHECK.faults("f(1, B(2))", 2);
        CHECK.gives("f(2147483647, 0)", 3);
        CHECK.gives("f(2147483646, -1)", 3);
        CHECK.gives("f(-2147483647 - 1, 1)", 1);
        CHECK.gives("f(-5, 5)", 4);
        CHECK.gives("f(-5, 9)", 4);
        CHECK.gives("f(-5, 10)", 1);
        CHECK.gives("f(-5, 7)", 1);
        CHECK.gives("f(-5, -5)", 0);
        CHECK.tell("call g(1) best left; method g(x) = 0; method g(x == -5) = 1; method g(x) if x < 0 = 2; method g(x) if x < -4 or 9 < x = 3;");
        CHECK.gives("g(0)", 0);
        CHECK.gives("g(-5)", 1);
        CHECK.gives("g(-4)", 2);
        CHECK.faults("g(-6)", 2);
        CHECK.gives("g(10)", 3);
    }

    private static void choosingTellsTheSame() {
        CHECK.anew();
        CHECK.tell("kind A; kind B < A; call f(2) best left; method f(x, y) = 1; method f(x: A, y) = next + 10;"
            + "method f(x, y: B) = next + 100; method f(x: B, y: A) = next + 1000;");
        for (int choosing = 0; choosing < 4; choosing++) {
            CHECK.house().set(0, choosing);
            CHECK.gives("f(0, 0)", 1);
            CHECK.gives("f(A(0), B(0))", 111);
            CHECK.gives("f(B(0), B(0))", 1111);
            CHECK.ran(4, 2, 3, 1);
            CHECK.gives("f(B(0), A(0))", 1011);
        }
        CHECK.house().set(1, 1);
        CHECK.gives("f(B(0), A(0))", 1011);
    }

    private static void showing() {
        CHECK.anew();
        CHECK.tell("call t(1) best left; method t(x) = " + times(64, "(show x)", "+") + ";");
        CHECK.gives(times(8, "t(1)", "+"), 512);
        CHECK.due("shown", CHECK.house().told(4), 512);
        CHECK.due("the last", CHECK.house().shown(511), 1);
        CHECK.throwing("behind the last", IndexOutOfBoundsException.class, () -> CHECK.house().shown(512));
        CHECK.run(times(8, "t(1)", "+") + " + (show 2) + (show 3)", 5, -1, 0);
        CHECK.due("shown", CHECK.house().told(4), 512);
        CHECK.due("STEPS", CHECK.house().told(3), 8 * (2 + 64 * 3 - 1) + 7 + 4);
        CHECK.run("try " + times(8, "t(1)", "+") + " + (show 2) on x do 1", 5, -1, 0);
        CHECK.gives("show -7", -7);
        CHECK.showed(-7);
        CHECK.throwing("shown 1", IndexOutOfBoundsException.class, () -> CHECK.house().shown(1));
        CHECK.throwing("shown -1", IndexOutOfBoundsException.class, () -> CHECK.house().shown(-1));
    }

    private static void listing() {
        DispatchHouse house = CHECK.anew();
        CHECK.tell("call s(1) best left; call t(1) best left; method s(x) = x; method t(x) = " + times(64, "s(1)", "+")
            + "; method s(x: Fault) = 1;");
        CHECK.gives("t(1) + s(Fault(1))", 65);
        CHECK.due("ran", house.ran(), 2 * 66);
        CHECK.due("word 0", house.word(0), 0x0002000100010001L);
        CHECK.due("word 1", house.word(1), 0x0200010001000100L);
        CHECK.due("word 124", house.word(124), 0x0001000100010003L);
        CHECK.due("word 125", house.word(125), 0x0100010001000300L);
        CHECK.due("word 130", house.word(130), 0x0003000000000000L);
        CHECK.due("word 131", house.word(131), 0x0300000000000000L);
        CHECK.throwing("word 132", IndexOutOfBoundsException.class, () -> house.word(132));
        CHECK.throwing("word -1", IndexOutOfBoundsException.class, () -> house.word(-1));
        CHECK.gives(times(8, "t(1)", "+"), 512);
        CHECK.due("RESULT stays until ran", house.count(5), 132);
        CHECK.due("RESULT stays until ran", house.word(130), 0x0003000000000000L);
        CHECK.due("methods that began", house.told(5), 520);
        CHECK.due("ran", house.ran(), 1024);
        CHECK.due("word 1016", house.word(1016), 0x0001000100010001L);
        CHECK.due("word 1023", house.word(1023), 0x0100000000000000L);
        CHECK.throwing("word 1024", IndexOutOfBoundsException.class, () -> house.word(1024));
        CHECK.gives("1", 1);
        CHECK.due("ran of no methods", house.ran(), 0);
        CHECK.due("bytes of RESULT", house.count(5), 0);
        CHECK.throwing("word of nothing", IndexOutOfBoundsException.class, () -> house.word(0));
    }

    private static void wrongAsking() {
        DispatchHouse house = CHECK.anew();
        CHECK.throwing("told 7", IllegalArgumentException.class, () -> house.told(7));
        CHECK.throwing("told -1", IllegalArgumentException.class, () -> house.told(-1));
        CHECK.gives("show 5", 5);
        CHECK.program("fail 6");
        CHECK.due("a program that did not run yet", house.told(2), 5);
        house.run();
        CHECK.due("ended", house.told(0), 1);
        CHECK.due("shown", house.told(4), 0);
        house.clear();
        CHECK.throwing("run of a cleared world", IllegalStateException.class, house::run);
        CHECK.due("ended", house.told(0), 1);
    }
}
