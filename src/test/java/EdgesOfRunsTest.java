/** Term 4 and promises 14 to 18: what an E does, how runs end and what is told of them, a test for each sentence. */
public final class EdgesOfRunsTest {
    private static final Check CHECK = new Check();
    private static final int LEAST = Integer.MIN_VALUE;
    private static final String LEAST_TEXT = "(-2147483647 - 1)";

    public static void main(String[] args) {
        stepsAsTheyBegin();
        stepsWhereverTheyAre();
        numbersAndNames();
        valuesOfKinds();
        wrapping();
        dividing();
        dividingByNothing();
        comparing();
        isBelow();
        numberOf();
        branching();
        showing();
        variables();
        onOnce();
        offForE();
        layersAsBefore();
        failing();
        trying();
        faults();
        argumentsFromTheLeft();
        methodsInOneAnother();
        methodsByNext();
        methodsInAround();
        muchAtOnce();
        runsThatBroke();
        endsWithValue();
        endsFailed();
        endsWithoutFuel();
        endsShowing();
        runThrows();
        toldBeforeRuns();
        toldOfTheLatest();
        toldMethodsBeyond();
        toldThrows();
        shownThrows();
        ranThrows();
        ranAtMost();
        twoBytesEach();
        wordBehindItsEnd();
        wordThrows();
        CHECK.done();
    }

    private static void stepsOf(int want, String program) {
        CHECK.program(program);
        CHECK.house().run();
        CHECK.due("STEPS of " + program, CHECK.house().told(3), want);
    }

    private static void stepsWhereverTheyAre() {
        CHECK.sentence("Each NODE is a STEP as it begins (in methods, and only those that begin)");
        Object[][] all = {{1, "7"}, {1, "-7"}, {3, "1 + 2"}, {3, "1 - 2"}, {3, "1 * 2"}, {3, "1 / 2"}, {3, "1 < 2"}, {3, "1 <= 2"}, {3, "1 == 2"},
            {2, "1 is A"}, {2, "#1"}, {2, "A(1)"}, {4, "u(1, 2)"}, {3, "let x = 1 then x"}, {3, "if 1 then 2 else 3"}, {2, "with L do 1"},
            {2, "without L do 1"}, {2, "try 1 on x do 2"}, {4, "try fail 1 on x do x"}, {2, "show 1"}, {9, "1 < 2 + 3 * 4 / 5"}, {9, "1 + 2 * 3 - 4 == 5"},
            {6, "1 + 2 * 3 is A"}};
        for (Object[] one : all) {
            int own = (Integer) one[0];
            String form = (String) one[1];
            CHECK.anew();
            CHECK.tell("kind A; layer L; call u(2) best left; method u(x, y) = 5; call g(1) best left; method g(x) = " + form + ";");
            CHECK.tell("method g(x: Fault) = if x then 5 else " + form + ";");
            stepsOf(own, form);
            stepsOf(own + 2, "if 1 then " + form + " else 0");
            stepsOf(own + 2, "if 0 then 0 else " + form);
            stepsOf(3, "if 0 then " + form + " else 5");
            stepsOf(3, "if 1 then 5 else " + form);
            stepsOf(own + 2, "5 + (" + form + ")");
            stepsOf(own + 2, "(" + form + ") * 5");
            stepsOf(own + 2, "g(1)");
            stepsOf(2 * own + 5, "g(1) + g(1)");
            stepsOf(6, "g(Fault(1))");
            stepsOf(own + 5, "g(Fault(0))");
        }
    }

    private static void stepsAsTheyBegin() {
        CHECK.sentence("Each NODE is a STEP as it begins");
        CHECK.tell("kind A; layer L; call f(2) best left; method f(x, y) = x; call u(1) best left;");
        stepsOf(1, "1");
        stepsOf(1, "-1");
        stepsOf(1, "(((1)))");
        stepsOf(3, "1 + 2");
        stepsOf(3, "1 - 2");
        stepsOf(3, "1 * 2");
        stepsOf(3, "1 / 2");
        stepsOf(3, "1 < 2");
        stepsOf(3, "1 <= 2");
        stepsOf(3, "1 == 2");
        stepsOf(2, "1 is A");
        stepsOf(2, "#1");
        stepsOf(2, "A(1)");
        stepsOf(4, "f(1, 2)");
        stepsOf(3, "let x = 1 then x");
        stepsOf(3, "if 1 then 2 else 3 + 4");
        stepsOf(5, "if 0 then 2 else 3 + 4");
        stepsOf(2, "with L do 1");
        stepsOf(2, "without L do 1");
        stepsOf(2, "try 1 on x do 2 + 3");
        stepsOf(6, "try fail 1 on x do x + 3");
        stepsOf(2, "show 1");
        stepsOf(2, "fail 1");
        // what does not begin is no step, what began is one though it did not end
        stepsOf(3, "(fail 1) + 2");
        stepsOf(3, "1 / 0");
        stepsOf(4, "1 / 0 + 2 * 3");
        stepsOf(2, "u(1)");
        stepsOf(5, "f(1, fail u(1))");
    }

    private static void numbersAndNames() {
        CHECK.sentence("number: an Int. NAME: the variable's value, the latest of its NAME");
        CHECK.tell("kind A; call f(2) best left; method f(x, y) = let x = y then x;");
        CHECK.run("-7", 0, 1, -7);
        CHECK.run("let x = A(1) then x", 0, 3, 1);
        CHECK.gives("let x = 1 then let x = 2 then let x = 3 then x", 3);
        CHECK.gives("let x = 1 then let y = 2 then let x = x + y then x", 3);
        CHECK.gives("let x = 1 then (let x = 2 then x) * 10 + x", 21);
        CHECK.gives("let x = 1 then (try fail 2 on x do x) * 10 + x", 21);
        CHECK.gives("let x = 1 then (try (let x = 3 then fail x) on y do x + y) * 10 + x", 41);
        CHECK.gives("f(1, 2)", 2);
    }

    private static void valuesOfKinds() {
        CHECK.sentence("K ( E ): a value of kind K with the number of E's");
        CHECK.tell("kind A; kind B < A;");
        CHECK.run("A(5)", 0, 3, 5);
        CHECK.run("B(A(6))", 0, 4, 6);
        CHECK.run("Int(B(7))", 0, 1, 7);
        CHECK.run("Fault(" + LEAST_TEXT + ")", 0, 2, LEAST);
        CHECK.run("A(-1)", 0, 3, -1);
    }

    private static void wrapping() {
        CHECK.sentence("+ - * / : Int of both numbers, ints wrap");
        CHECK.tell("kind A;");
        CHECK.gives("2147483647 + 1", LEAST);
        CHECK.gives("-2147483647 - 1", LEAST);
        CHECK.gives("-2147483647 - 2", 2147483647);
        CHECK.gives(LEAST_TEXT + " + " + LEAST_TEXT, 0);
        CHECK.gives("0 - " + LEAST_TEXT, LEAST);
        CHECK.gives(LEAST_TEXT + " * -1", LEAST);
        CHECK.gives("65536 * 65536", 0);
        CHECK.gives("2147483647 * 2147483647", 1);
        CHECK.gives("A(2) + A(3)", 5);
        CHECK.gives("A(2) - Fault(3)", -1);
        CHECK.gives("A(2) * A(3)", 6);
        CHECK.gives("A(7) / A(2)", 3);
    }

    private static void dividing() {
        CHECK.sentence("/ (cut towards 0; the least by -1 is itself)");
        CHECK.gives("7 / 2", 3);
        CHECK.gives("-7 / 2", -3);
        CHECK.gives("7 / -2", -3);
        CHECK.gives("-7 / -2", 3);
        CHECK.gives("1 / 2", 0);
        CHECK.gives("-1 / 2", 0);
        CHECK.gives("0 / -5", 0);
        CHECK.gives(LEAST_TEXT + " / -1", LEAST);
        CHECK.gives(LEAST_TEXT + " / 1", LEAST);
        CHECK.gives(LEAST_TEXT + " / 2", -1073741824);
        CHECK.gives("2147483647 / -1", -2147483647);
        CHECK.gives("1 / " + LEAST_TEXT, 0);
        CHECK.gives(LEAST_TEXT + " / " + LEAST_TEXT, 1);
    }

    private static void dividingByNothing() {
        CHECK.sentence("by 0: FAULT 3");
        CHECK.tell("kind A;");
        CHECK.faults("1 / 0", 3);
        CHECK.faults("0 / 0", 3);
        CHECK.faults("1 / -0", 3);
        CHECK.faults(LEAST_TEXT + " / 0", 3);
        CHECK.faults("1 / A(0)", 3);
        CHECK.faults("1 / (5 - 5)", 3);
        CHECK.gives("try 1 / 0 on x do #x + 1", 4);
    }

    private static void comparing() {
        CHECK.sentence("< <= == : Int 1 or 0 by the numbers");
        CHECK.tell("kind A;");
        int[] some = {LEAST, LEAST + 1, -1, 0, 1, 2147483646, 2147483647};
        for (int a : some) {
            CHECK.anew();
            for (int b : some) {
                String left = a == LEAST ? LEAST_TEXT : "" + a;
                String right = b == LEAST ? LEAST_TEXT : "" + b;
                CHECK.gives("(" + left + " < " + right + ") * 100 + (" + left + " <= " + right + ") * 10 + (" + left + " == " + right + ")",
                    (a < b ? 100 : 0) + (a <= b ? 10 : 0) + (a == b ? 1 : 0));
            }
        }
        CHECK.anew();
        CHECK.tell("kind A;");
        CHECK.gives("A(1) == Fault(1)", 1);
        CHECK.gives("A(1) < 2", 1);
        CHECK.gives("2 <= A(1)", 0);
    }

    private static void isBelow() {
        CHECK.sentence("is: Int 1 if its kind is BELOW");
        CHECK.tell("kind A bare; kind B < A; kind C < B, Int;");
        CHECK.gives("B(0) is B", 1);
        CHECK.gives("B(0) is A", 1);
        CHECK.gives("B(0) is Any", 1);
        CHECK.gives("B(0) is C", 0);
        CHECK.gives("B(0) is Int", 0);
        CHECK.gives("C(0) is Int", 1);
        CHECK.gives("1 is Int", 1);
        CHECK.gives("1 is Fault", 0);
        CHECK.gives("B(1) + 1 is B", 0);
    }

    private static void numberOf() {
        CHECK.sentence("# : Int of its number");
        CHECK.tell("kind A;");
        CHECK.run("#A(5)", 0, 1, 5);
        CHECK.run("#5", 0, 1, 5);
        CHECK.run("#A(-5) + 1", 0, 1, -4);
    }

    private static void branching() {
        CHECK.sentence("if: then, if the number is not 0");
        CHECK.tell("kind A;");
        CHECK.gives("if 1 then 2 else 3", 2);
        CHECK.gives("if 0 then 2 else 3", 3);
        CHECK.gives("if -1 then 2 else 3", 2);
        CHECK.gives("if " + LEAST_TEXT + " then 2 else 3", 2);
        CHECK.gives("if 65536 * 65536 then 2 else 3", 3);
        CHECK.gives("if A(0) then 2 else 3", 3);
        CHECK.gives("if Fault(4) then 2 else 3", 2);
        CHECK.gives("if 1 then 2 else fail 3", 2);
        CHECK.gives("if 0 then fail 2 else 3", 3);
    }

    private static void showing() {
        CHECK.sentence("show: its number is shown; the value");
        CHECK.tell("kind A;");
        CHECK.run("show A(" + LEAST_TEXT + ")", 0, 3, LEAST);
        CHECK.showed(LEAST);
        CHECK.gives("(show 1) - (show 2 + (show 3))", -4);
        CHECK.showed(1, 3, 5);
        CHECK.run("show fail 1", 1, 1, 1);
        CHECK.showed();
    }

    private static void variables() {
        CHECK.sentence("let: the variable is there in the E behind then");
        CHECK.programWrong(3, "let x = ^x then 1");
        CHECK.programWrong(3, "(let x = 1 then 2) + ^x");
        CHECK.gives("let x = 1 + 2 then x * x", 9);
        // as many at once as can be open
        CHECK.gives("let a=1 then let b=2 then let c=4 then let d=8 then let e=16 then let f=32 then let g=64 then let h=128 then let i=256 then "
            + "let j=512 then a+b+c+d+e+f+g+h+i+j", 1023);
        CHECK.tell("call f(3) best left; method f(x, y, z) = let a=1 then let b=2 then let c=4 then let d=8 then let e=16 then let f=32 then "
            + "let g=64 then let h=128 then let i=256 then let j=512 then x+y+z+a+b+c+d+e+f+g+h+i+j;");
        CHECK.gives("f(1024, 2048, 4096)", 8191);
        CHECK.gives("let x = 5 then f(1, 2, 3) - 1023 + x", 11);
    }

    private static void onOnce() {
        CHECK.sentence("with L do E: L is put on (last) for E, if it was on it is on there once, last");
        CHECK.tell("layer L; layer M; call f(1) best left; method f(x) = 0; method f(x) in L = next * 10 + 1; method f(x) in M = next * 10 + 2;");
        CHECK.gives("with L do f(0)", 1);
        CHECK.gives("with L do with M do f(0)", 12);
        CHECK.gives("with M do with L do f(0)", 21);
        CHECK.gives("with L do with L do f(0)", 1);
        CHECK.gives("with L do with M do with L do f(0)", 21);
        CHECK.gives("with L do with M do (with L do f(0)) * 1000 + f(0)", 21012);
        CHECK.gives("with L do with L do (without L do f(0)) * 1000 + f(0)", 1);
    }

    private static void offForE() {
        CHECK.sentence("without: off for E");
        CHECK.tell("layer L; layer M; call f(1) best left; method f(x) = 0; method f(x) in L = next * 10 + 1; method f(x) in M = next * 10 + 2;");
        CHECK.gives("without L do f(0)", 0);
        CHECK.gives("with L do without L do f(0)", 0);
        CHECK.gives("with L do without M do f(0)", 1);
        CHECK.gives("with L do with M do without L do f(0)", 2);
        CHECK.gives("with L do with M do (without L do f(0)) * 1000 + f(0)", 2012);
        CHECK.gives("with L do without L do without L do with M do with L do f(0)", 21);
    }

    private static void layersAsBefore() {
        CHECK.sentence("behind E, or what ends it, layers are as before");
        CHECK.tell("layer L; layer M; call f(1) best left; method f(x) = 0; method f(x) in L = next * 10 + 1; method f(x) in M = next * 10 + 2;"
            + "call g(1) best left; method g(x) = with M do fail f(0); method g(x: Int) = without L do next;");
        CHECK.gives("(with L do 5) + f(0)", 5);
        CHECK.gives("with L do (without L do 0) + f(0)", 1);
        CHECK.gives("(try with L do fail 5 on x do f(0)) + f(0)", 0);
        CHECK.gives("with L do (try without L do 1 / 0 on x do f(0)) * 10 + f(0)", 11);
        CHECK.gives("with L do (try g(0) on x do x * 1000 + f(0)) + f(0)", 2002);
        CHECK.gives("with L do (try g(Fault(0)) on x do x * 1000 + f(0)) + f(0)", 12002);
        // what ends a run ends it too: the next one begins without layers
        CHECK.run("with L do fail 1", 1, 1, 1);
        CHECK.gives("f(0)", 0);
        CHECK.house().set(2, 2);
        CHECK.run("with L do 1 + 1", 4, -1, 0);
        CHECK.house().set(2, 10000);
        CHECK.gives("f(0)", 0);
    }

    private static void failing() {
        CHECK.sentence("fail: its value FAILS");
        CHECK.tell("kind A; call f(1) best left; method f(x) = 1 + (fail A(x)); method f(x) behind = show 1;");
        CHECK.run("fail A(7)", 1, 3, 7);
        CHECK.run("1 + f(8)", 1, 3, 8);
        CHECK.showed();
        CHECK.run("fail fail 2", 1, 1, 2);
        CHECK.run("let x = fail 3 then show 1", 1, 1, 3);
        CHECK.showed();
    }

    private static void trying() {
        CHECK.sentence("try: what FAILS in the E gets the NAME's variable in the E behind do");
        CHECK.tell("kind A; call f(1) best left; method f(x) = fail A(x);");
        CHECK.run("try f(5) on x do x", 0, 3, 5);
        CHECK.gives("try 5 on x do 6", 5);
        CHECK.run("try fail 1 on x do fail x + 1", 1, 1, 2);
        CHECK.gives("try try fail 1 on x do fail x + 1 on y do y + 10", 12);
        CHECK.gives("try (try 1 on x do 2) + (fail 30) on y do y + 4", 34);
        CHECK.gives("try try fail 1 on x do x + 1 on y do y + 10", 2);
        CHECK.gives("1 + 10 * (try 5 + f(6) on x do x) + (try f(7) on y do y)", 68);
        CHECK.run("(try 1 on x do 2) + (fail 3)", 1, 1, 3);
        CHECK.run("(try fail 1 on x do 2) + (fail 3)", 1, 1, 3);
    }

    private static void faults() {
        CHECK.sentence("FAULT n FAILS with a Fault of number n");
        CHECK.tell("call f(1) best left; method f(x) = f(x); call g(1) best left; method g(x: Int) if x < 5 = 1; method g(x: Int) if 3 < x = 2;");
        CHECK.faults("g(Fault(0))", 1);
        CHECK.faults("g(4)", 2);
        CHECK.faults("1 / 0", 3);
        CHECK.faults("f(0)", 4);
        CHECK.gives("(try g(Fault(0)) on x do #x) * 1000 + (try g(4) on x do #x) * 100 + (try 1 / 0 on x do #x) * 10 + (try f(0) on x do #x)", 1234);
        CHECK.gives("try g(4) on x do x is Fault", 1);
    }

    private static void argumentsFromTheLeft() {
        CHECK.sentence("Arguments are worked out from the left");
        CHECK.tell("call f(3) best left; method f(x, y, z) = x * 100 + y * 10 + z; method f(x: Int, y, z) = next(show z, show y, show x);");
        CHECK.gives("f(show 1, show 2, show 3)", 321);
        CHECK.showed(1, 2, 3, 3, 2, 1);
        CHECK.run("f(show 1, fail 2, show 3)", 1, 1, 2);
        CHECK.showed(1);
        CHECK.gives("(show 1) + (show 2) * (show 3) < (show 4)", 0);
        CHECK.showed(1, 2, 3, 4);
    }

    private static void methodsInOneAnother() {
        DispatchHouse house = CHECK.sentence("More than 24 methods in one another: FAULT 4");
        CHECK.tell("call f(1) best left; method f(x) = if x then f(x - 1) + 1 else 0; call t(1) best left; method t(x) = try f(x) on y do #y + 100;");
        CHECK.gives("f(23)", 23);
        CHECK.due("methods", house.told(5), 24);
        CHECK.faults("f(24)", 4);
        CHECK.due("methods", house.told(5), 24);
        CHECK.due("LOOKS", house.told(6), 25);
        CHECK.gives("t(22)", 22);
        CHECK.gives("t(23)", 104);
        CHECK.gives("f(23) + f(23)", 46);
        CHECK.gives("(try f(99) on x do #x) + f(23)", 27);
        // those that have ended, as before and behind ones have, do not count
        CHECK.tell("call g(1) best left; method g(x) = 1; method g(x) before = 2; method g(x) behind = 3; method f(x == 0) = g(0);");
        CHECK.gives("f(22)", 23);
        CHECK.faults("f(23)", 4);
        CHECK.due("methods", house.told(5), 24);
        // no method can run: FAULT 1 and FAULT 2 go before
        CHECK.tell("call n(1) best left; method f(x == 0) around if x == 0 = n(0);");
        CHECK.faults("f(23)", 1);
    }

    private static void methodsByNext() {
        CHECK.sentence("More than 24 methods in one another (by next)");
        StringBuilder text = new StringBuilder("call f(1) best left; method f(x) = 100;");
        for (int i = 1; i <= 23; i++) {
            text.append("method f(x) if x < ").append(i).append(" = next + 1;");
        }
        CHECK.tell(text.toString());
        CHECK.gives("f(0)", 123);
        CHECK.due("methods", CHECK.house().told(5), 24);
        CHECK.tell("method f(x: Int) = next + 1;");
        CHECK.faults("f(0)", 4);
        CHECK.due("methods", CHECK.house().told(5), 24);
        CHECK.gives("f(1)", 123);
    }

    private static void methodsInAround() {
        CHECK.sentence("More than 24 methods in one another (those around count)");
        CHECK.tell("call f(1) sum left; method f(x) = if x then f(x - 1) + 1 else 0; method f(x) around = next;");
        CHECK.gives("f(11)", 11);
        CHECK.due("methods", CHECK.house().told(5), 24);
        CHECK.faults("f(12)", 4);
        CHECK.due("methods", CHECK.house().told(5), 24);
        CHECK.tell("method f(x: Fault) = f(11); method f(x: Fault) around = f(11);");
        CHECK.faults("f(Fault(0))", 4);
    }

    private static void muchAtOnce() {
        CHECK.sentence("24 methods in one another, each in the midst of much");
        CHECK.tell("layer L; call f(3) best left; method f(x, y, z) = try try try try with L do if x then 1 < 1 * (1 + 2 * f(x - 1, y, z)) else 1 "
            + "on a do 0 on a do 0 on a do 0 on a do 0;");
        CHECK.gives("f(23, 5, 6)", 1);
        CHECK.due("methods", CHECK.house().told(5), 24);
        CHECK.gives("f(24, 5, 6)", 0);
        CHECK.tell("call g(3) sum near; method g(x, y, z) = if x then y + g(x - 1, y, z) * 1 + z * (z + (y - y)) / z else (z / z) * 7;");
        CHECK.gives("g(23, 2, 3)", 7 + 23 * 5);
        CHECK.tell("call h(1) best left; method h(x) = let a = 1 then let b = 2 then let c = if x then h(x - 1) else 0 then a + b + c + x;");
        CHECK.gives("h(23)", 24 * 3 + 23 * 12);
    }

    private static void runsThatBroke() {
        DispatchHouse house = CHECK.sentence("A RUN (what was left of others before does not matter)");
        CHECK.tell("layer L; call f(2) best left; call e(2) best left; method f(x, y) = with L do 1 + 2 * (3 - f(x, y + e(x, y)));"
            + "method e(x, y) = 1; method e(x == 1, y == 22) = fail 5; method e(x == 2, y == 22) = 1 / 0;");
        CHECK.tell("call g(1) best left; method g(x) = if x then 1 + 1 * (x - x + g(x - 1)) else 0; method g(x) in L = 1000;");
        int[] ends = {4, 1, 1};
        for (int round = 0; round < 27; round++) {
            int x = round % 3;
            house.set(2, x == 0 ? 300 + round : 10000);
            CHECK.program("1 + f(" + x + ", 0)");
            CHECK.due("run of " + x, house.run(), ends[x]);
            house.set(2, 10000);
            CHECK.gives("g(23)", 23);
        }
    }

    private static void endsWithValue() {
        CHECK.sentence("A RUN ENDS 0 with the value");
        CHECK.tell("kind A;");
        CHECK.run("A(5)", 0, 3, 5);
        CHECK.run("Fault(1)", 0, 2, 1);
        CHECK.run("0", 0, 1, 0);
    }

    private static void endsFailed() {
        CHECK.sentence("1: a value FAILED that nothing took");
        CHECK.run("fail 0", 1, 1, 0);
        CHECK.run("fail Fault(9)", 1, 2, 9);
        CHECK.run("1 / 0", 1, 2, 3);
        CHECK.run("try 1 on x do 2", 0, 1, 1);
        CHECK.run("try fail 1 on x do 2", 0, 1, 2);
        CHECK.run("try fail 1 on x do fail 2", 1, 1, 2);
    }

    private static void endsWithoutFuel() {
        DispatchHouse house = CHECK.sentence("4: no STEP is left of FUEL");
        CHECK.tell("call f(1) best left; method f(x) = x;");
        String program = "let x = show 5 then f(show x + 1)";
        // let, show, 5; f, show, +, x, 1; x
        int[] shown = {0, 0, 0, 1, 1, 1, 1, 1, 2, 2};
        for (int fuel = 1; fuel <= 9; fuel++) {
            house.set(2, fuel);
            CHECK.run(program, fuel < 9 ? 4 : 0, fuel < 9 ? -1 : 1, fuel < 9 ? 0 : 6);
            CHECK.steps(fuel);
            CHECK.due("shown with FUEL " + fuel, house.told(4), shown[fuel]);
            CHECK.due("methods with FUEL " + fuel, house.told(5), fuel < 8 ? 0 : 1);
            CHECK.due("LOOKS with FUEL " + fuel, house.told(6), fuel < 8 ? 0 : 1);
        }
        house.set(2, 10);
        CHECK.run(program, 0, 1, 6);
        CHECK.steps(9);
        house.clear();
        CHECK.tell("call f(1) best left; method f(x) = 1; method f(x: Int) = next;");
        // f, 1; next; 1
        int[] methods = {0, 0, 1, 2, 2};
        for (int fuel = 1; fuel <= 4; fuel++) {
            house.set(2, fuel);
            CHECK.run("f(1)", fuel < 4 ? 4 : 0, fuel < 4 ? -1 : 1, fuel < 4 ? 0 : 1);
            CHECK.due("methods with FUEL " + fuel, house.told(5), methods[fuel]);
        }
        house.set(2, 2);
        CHECK.run("try 1 / 0 on x do 7", 4, -1, 0);
        CHECK.run("1 / 0", 4, -1, 0);
        house.set(2, 3);
        CHECK.faults("1 / 0", 3);
        CHECK.anew();
        CHECK.tell("call f(1) best left; method f(x) = if x then f(x) + f(x) else 0;");
        CHECK.run("try f(1) on x do 5", 0, 1, 5);
        CHECK.tell("call g(1) best left; method g(x) = (try g(x) on y do 1) + (try g(x) on y do 1);");
        CHECK.run("g(1)", 4, -1, 0);
        CHECK.steps(10000);
        CHECK.house().set(2, 100000);
        CHECK.run("g(1)", 4, -1, 0);
        CHECK.steps(100000);
    }

    private static String shows(int n) {
        return Check.times(n - 1, "(show 1)+") + "(show 1)";
    }

    private static void endsShowing() {
        DispatchHouse house = CHECK.sentence("5: more than 512 numbers would be shown");
        CHECK.tell("call f(1) best left; method f(x) = " + shows(64) + ";");
        String all = "f(1)" + Check.times(7, " + f(1)");
        CHECK.gives(all, 512);
        CHECK.due("shown", house.told(4), 512);
        CHECK.run(all + " + (show 2)", 5, -1, 0);
        CHECK.due("shown", house.told(4), 512);
        CHECK.due("the last", house.shown(511), 1);
        CHECK.throwing("none behind it", IndexOutOfBoundsException.class, () -> house.shown(512));
        CHECK.run("try " + all + " + (show 2) on x do 3", 5, -1, 0);
        CHECK.gives("show 7", 7);
        CHECK.showed(7);
    }

    private static void runThrows() {
        DispatchHouse house = CHECK.sentence("Promise 14: IllegalStateException: there is none, or the WORLD has been cleared since");
        CHECK.refused("run of a new house", IllegalStateException.class, house::run);
        CHECK.tell("call f(1) best left; method f(x) = x;");
        CHECK.refused("run without a program", IllegalStateException.class, house::run);
        CHECK.gives("f(5)", 5);
        CHECK.due("run again", house.run(), 0);
        CHECK.programWrong(1, "f(^");
        CHECK.refused("run behind a wrong program", IllegalStateException.class, house::run);
        CHECK.gives("f(6)", 6);
        CHECK.tellWrong(1, "kind^");
        CHECK.due("run behind a wrong text", house.run(), 0);
        house.clear();
        CHECK.refused("run behind clear", IllegalStateException.class, house::run);
        CHECK.tell("call f(1) best left; method f(x) = x;");
        CHECK.refused("run behind clear and a text", IllegalStateException.class, house::run);
        CHECK.gives("f(7)", 7);
    }

    private static void toldBeforeRuns() {
        DispatchHouse house = CHECK.sentence("Promise 15: 0: how it ENDED (-1: there was none), 1, 2: (-1, 0 else)");
        int[] none = {-1, -1, 0, 0, 0, 0, 0};
        for (int what = 0; what < 7; what++) {
            CHECK.due("told " + what, house.told(what), none[what]);
        }
        CHECK.program("5");
        CHECK.due("a program that did not run", house.told(0), -1);
        CHECK.tell("kind A;");
        CHECK.run("show A(5)", 0, 3, 5);
        house.set(2, 1);
        CHECK.run("show A(5)", 4, -1, 0);
    }

    private static void toldOfTheLatest() {
        DispatchHouse house = CHECK.sentence("Promise 15: Of the latest RUN");
        CHECK.tell("kind A; call f(1) best left; method f(x) = show x; method f(x: Int) = next;");
        CHECK.run("fail A(show f(5))", 1, 3, 5);
        // fail, A, show, f, 5; next; show, x
        int[] want = {1, 3, 5, 8, 2, 2, 2};
        for (int what = 0; what < 7; what++) {
            CHECK.due("told " + what, house.told(what), want[what]);
        }
        CHECK.programWrong(3, "^x");
        CHECK.throwing("no run", IllegalStateException.class, house::run);
        for (int what = 0; what < 7; what++) {
            CHECK.due("told " + what + " behind a run that was refused", house.told(what), want[what]);
        }
        CHECK.gives("3", 3);
        int[] then = {0, 1, 3, 1, 0, 0, 0};
        for (int what = 0; what < 7; what++) {
            CHECK.due("told " + what, house.told(what), then[what]);
        }
    }

    private static void toldMethodsBeyond() {
        DispatchHouse house = CHECK.sentence("Promise 15: 5: methods that began (beyond 512, too)");
        CHECK.tell("call s(1) best left; method s(x) = 1; call t(1) best left; method t(x) = " + "s(1)" + Check.times(62, "+s(1)") + ";");
        CHECK.gives("t(1)" + Check.times(7, "+t(1)"), 504);
        CHECK.due("methods", house.told(5), 512);
        CHECK.gives("s(1)" + Check.times(8, "+t(1)"), 505);
        CHECK.due("methods", house.told(5), 513);
        CHECK.gives("t(1)" + Check.times(19, "+t(1)"), 1260);
        CHECK.due("methods", house.told(5), 1280);
    }

    private static void toldThrows() {
        DispatchHouse house = CHECK.sentence("Promise 15: IllegalArgumentException for others");
        for (int what : new int[] {-1, 7, 8, Integer.MIN_VALUE, Integer.MAX_VALUE}) {
            CHECK.refused("told " + what, IllegalArgumentException.class, () -> house.told(what));
        }
        CHECK.gives("1", 1);
        CHECK.refused("told 7", IllegalArgumentException.class, () -> house.told(7));
        CHECK.due("told 6", house.told(6), 0);
    }

    private static void shownThrows() {
        DispatchHouse house = CHECK.sentence("Promise 16: IndexOutOfBoundsException: it showed not so many");
        CHECK.refused("shown of a new house", IndexOutOfBoundsException.class, () -> house.shown(0));
        CHECK.gives("(show 4) + (show 5)", 9);
        CHECK.due("shown 0", house.shown(0), 4);
        CHECK.due("shown 1", house.shown(1), 5);
        for (int i : new int[] {2, 3, 512, -1, Integer.MAX_VALUE, Integer.MIN_VALUE}) {
            CHECK.refused("shown " + i, IndexOutOfBoundsException.class, () -> house.shown(i));
        }
        CHECK.gives("show 6", 6);
        CHECK.due("shown 0", house.shown(0), 6);
        CHECK.throwing("shown 1 of the latest run", IndexOutOfBoundsException.class, () -> house.shown(1));
        CHECK.gives("6", 6);
        CHECK.throwing("shown 0 of a run that showed none", IndexOutOfBoundsException.class, () -> house.shown(0));
    }

    private static void ranThrows() {
        DispatchHouse house = CHECK.sentence("Promise 17: IllegalStateException: there was none");
        CHECK.refused("ran of a new house", IllegalStateException.class, house::ran);
        CHECK.tell("call f(1) best left; method f(x) = x;");
        CHECK.program("f(1)");
        CHECK.refused("ran before the run", IllegalStateException.class, house::ran);
        CHECK.gives("f(1)", 1);
        CHECK.due("ran", house.ran(), 2);
        house.clear();
        CHECK.due("ran behind clear", house.ran(), 2);
        CHECK.gives("1", 1);
        CHECK.due("ran of no methods", house.ran(), 0);
        house.set(2, 1);
        CHECK.run("1 + 1", 4, -1, 0);
        CHECK.due("ran of a run without fuel", house.ran(), 0);
    }

    private static void ranAtMost() {
        DispatchHouse house = CHECK.sentence("RESULT: the numbers of methods in the order in which they began in the latest RUN (512 at most)");
        CHECK.tell("call s(1) best left; method s(x) = 1; call t(1) best left; method t(x) = " + "s(1)" + Check.times(62, "+s(1)") + ";"
            + "method s(x: Fault) = 2;");
        CHECK.gives("t(1)" + Check.times(6, "+t(1)") + Check.times(63, "+s(1)") + "+s(Fault(1))", 506);
        CHECK.due("methods", house.told(5), 512);
        CHECK.due("ran", house.ran(), 1024);
        CHECK.due("the last of 512", house.word(1022), 0x0003000000000000L);
        CHECK.due("the first ones", house.word(0), 0x0002000100010001L);
        CHECK.gives("t(1)" + Check.times(6, "+t(1)") + Check.times(64, "+s(1)") + "+s(Fault(1))", 507);
        CHECK.due("methods", house.told(5), 513);
        CHECK.due("ran", house.ran(), 1024);
        CHECK.due("the last of 512", house.word(1022), 0x0001000000000000L);
        CHECK.throwing("no 513th", IndexOutOfBoundsException.class, () -> house.word(1024));
    }

    private static void twoBytesEach() {
        DispatchHouse house = CHECK.sentence("RESULT is the latest listing of RAN, empty at first: two bytes each, the highest first");
        CHECK.due("bytes at first", house.count(5), 0);
        CHECK.throwing("no word at first", IndexOutOfBoundsException.class, () -> house.word(0));
        StringBuilder text = new StringBuilder("call f(1) best left;");
        for (int i = 1; i <= 120; i++) {
            text.append("method f(x==").append(i).append(")=x;");
        }
        CHECK.tell(text.toString());
        for (int i : new int[] {2, 62, 63, 64, 65, 66, 67}) {
            CHECK.gives("f(" + i + ")", i);
        }
        CHECK.gives("f(120) + f(1) + f(100) + f(119)", 340);
        CHECK.due("RESULT stays until ran", house.count(5), 0);
        CHECK.due("ran", house.ran(), 8);
        CHECK.due("word 0", house.word(0), 0x0078000100640077L);
        CHECK.due("bytes", house.count(5), 8);
        CHECK.gives("f(3)", 3);
        CHECK.due("RESULT stays until ran", house.word(0), 0x0078000100640077L);
        house.clear();
        CHECK.due("RESULT stays behind clear", house.count(5), 8);
        CHECK.due("ran", house.ran(), 2);
        CHECK.due("word 0", house.word(0), 0x0003000000000000L);
    }

    private static void wordBehindItsEnd() {
        DispatchHouse house = CHECK.sentence("Promise 18: 8 bytes of RESULT from i on, the highest first, zeros behind its end");
        CHECK.tell("call f(1) best left; method f(x) = x; method f(x: Int) = x; method f(x: Fault) = x;");
        CHECK.gives("f(1) + f(Fault(2)) + f(1) + f(Fault(3)) + f(1)", 8);
        CHECK.due("ran", house.ran(), 10);
        long[] want = {0x0002000300020003L, 0x0200030002000300L, 0x0003000200030002L, 0x0300020003000200L, 0x0002000300020000L,
            0x0200030002000000L, 0x0003000200000000L, 0x0300020000000000L, 0x0002000000000000L, 0x0200000000000000L};
        for (int i = 0; i < want.length; i++) {
            CHECK.due("word " + i, house.word(i), want[i]);
        }
    }

    private static void wordThrows() {
        DispatchHouse house = CHECK.sentence("Promise 18: IndexOutOfBoundsException: i is none of its bytes");
        CHECK.refused("word of a new house", IndexOutOfBoundsException.class, () -> house.word(0));
        CHECK.tell("call f(1) best left; method f(x) = x;");
        CHECK.gives("f(f(1))", 1);
        CHECK.refused("word before ran", IndexOutOfBoundsException.class, () -> house.word(0));
        house.ran();
        CHECK.due("word 3", house.word(3), 0x0100000000000000L);
        CHECK.refused("word 4", IndexOutOfBoundsException.class, () -> house.word(4));
        for (int i : new int[] {4, 5, 12, 1024, -1, -8, Integer.MAX_VALUE, Integer.MIN_VALUE}) {
            CHECK.throwing("word " + i, IndexOutOfBoundsException.class, () -> house.word(i));
        }
        CHECK.gives("1", 1);
        house.ran();
        CHECK.refused("word of an empty RESULT", IndexOutOfBoundsException.class, () -> house.word(0));
    }
}
