/** Promises 4 and 5: texts and programs, right ones and where wrong ones are wrong. */
public final class TellTest {
    private static final Check CHECK = new Check();
    private static final String F = "call f(1) best left; ";
    private static final String G = "call g(2) best left; ";

    public static void main(String[] args) {
        signs();
        declarations();
        tests();
        expressions();
        openAtOnce();
        toldAlready();
        notTold();
        howMany();
        rows();
        bareOnes();
        tooMany();
        tooManyNodes();
        twins();
        whichIsFirst();
        wrongChangesNothing();
        programs();
        CHECK.done();
    }

    private static void signs() {
        CHECK.anew();
        CHECK.tellWrong(1, "^");
        CHECK.tellWrong(1, "  \t\r\n ^");
        CHECK.tellWrong(1, "$ a remark alone^");
        CHECK.tellWrong(1, "^.");
        CHECK.tellWrong(1, "kind A^\0;");
        CHECK.tellWrong(1, "kind A^\u00FF;");
        CHECK.tellWrong(1, "kind ^A_______________Z;");
        CHECK.tell("kind A______________Z;");
        CHECK.tellWrong(2, "kind ^A______________Z;");
        CHECK.tell("kind A______________Y;");
        CHECK.tellWrong(1, "kind ^1A;");
        CHECK.tell("kind A1 $ kind B\n;\r\n\tkind\tkinds\n;$ the end");
        CHECK.tell("kind _;kind a;kind a_1;");
        CHECK.due("kinds", CHECK.house().count(0), 10);
        CHECK.tellWrong(1, "call f(^2147483648) best left;");
        CHECK.tellWrong(4, "call f(^2147483647) best left;");
        CHECK.tellWrong(1, "call f(^99999999999999999999999999999999) best left;");
        CHECK.tell("call f(00000000000000000000000000000001) best left;");
        CHECK.tellWrong(1, "kind B ^<= A1;");
        CHECK.tellWrong(1, "method f(x) ^== 1;");
        CHECK.tell("method f(x)=1==1;");
        CHECK.programWrong(1, "1 < ^= 2");
        CHECK.gives("1<=2", 1);
        CHECK.programWrong(1, "1 ^= = 2");
        CHECK.programWrong(1, "1<=^");
        CHECK.programWrong(1, "1==^");
        CHECK.programWrong(1, "12^ab");
        CHECK.programWrong(3, "^ab12");
        String name = "aaaaaaaaaaaaaaaa";
        for (int i = 0; i < name.length(); i++) {
            for (char c : new char[] {'b', 'q', 'A', 'Z', '_', '9'}) {
                String other = name.substring(0, i) + c + name.substring(i + 1);
                if (i > 0 || c != '9') {
                    CHECK.gives("let " + name + " = 1 then let " + other + " = 2 then " + name, 1);
                    CHECK.anew();
                }
            }
            String shorter = name.substring(0, i + 1);
            CHECK.programWrong(i < 15 ? 3 : 1, "let " + shorter + " = 1 then ^" + shorter + "a");
        }
    }

    private static void declarations() {
        CHECK.anew();
        CHECK.tellWrong(1, "kind^");
        CHECK.tellWrong(1, "kind ^;");
        CHECK.tellWrong(1, "kind ^kind;");
        CHECK.tellWrong(1, "kind A^");
        CHECK.tellWrong(1, "kind A  $ x\n ^");
        CHECK.tellWrong(1, "kind A ^kind B;");
        CHECK.tellWrong(1, "kind A <^;");
        CHECK.tellWrong(1, "kind A < Int,^;");
        CHECK.tellWrong(1, "kind A bare ^< Int;");
        CHECK.tellWrong(1, "kind A bare ^bare;");
        CHECK.tellWrong(1, "^A;");
        CHECK.tellWrong(1, "^;");
        CHECK.tellWrong(1, "kind A; ^;");
        CHECK.tellWrong(1, "call f^;");
        CHECK.tellWrong(1, "call f(^) best left;");
        CHECK.tellWrong(1, "call f(^-1) best left;");
        CHECK.tellWrong(1, "call f(1^, best left;");
        CHECK.tellWrong(1, "call f(1) best ^best;");
        CHECK.tellWrong(1, "call f(1) ^near best;");
        CHECK.tellWrong(1, "call f(1) sum left^");
        CHECK.tellWrong(1, "layer ^in;");
        CHECK.tellWrong(1, "layer L ^bare;");
        CHECK.tellWrong(1, "method f ^= 1;");
        CHECK.tellWrong(1, "method f(^) = 1;");
        CHECK.tellWrong(1, "method f(x ^= 1;");
        CHECK.tellWrong(1, "method f(x:^) = 1;");
        CHECK.tellWrong(1, "method f(x==^) = 1;");
        CHECK.tellWrong(1, "method f(x==-^-1) = 1;");
        CHECK.tellWrong(1, "method f(x == 1 ^: Int) = 1;");
        CHECK.tellWrong(1, "method f(x) in L ^around = 1;");
        CHECK.tellWrong(1, "method f(x) around ^before = 1;");
        CHECK.tellWrong(1, "method f(x) if x < 1 ^in L = 1;");
        CHECK.tellWrong(1, "method f(x) ^1;");
        CHECK.tellWrong(1, "method f(x) = ^;");
        CHECK.tellWrong(1, "method f(x) = 1^");
        for (String join : "best sum all any least".split(" ")) {
            for (String way : "left each near".split(" ")) {
                CHECK.tell("call " + join + "_" + way + "(3) " + join + " " + way + ";");
            }
        }
        CHECK.due("calls", CHECK.house().count(1), 15);
        CHECK.tell("layer L; method best_left(x: Int == -3, y, z == 4) around in L if x < y or y is Int = next;");
        CHECK.tell("method best_left(x, y, z) before = 1; method best_left(x, y, z) behind = 1;");
        CHECK.due("methods", CHECK.house().count(2), 3);
    }

    private static void tests() {
        CHECK.anew();
        CHECK.tell(G);
        CHECK.tell("method g(x, y) if x < y and y <= 3 or not x == -1 = 1;");
        CHECK.tell("method g(x, y) if not not (x + 1 < y - 2 or (x is Int)) = 1;");
        CHECK.tell("method g(x, y) if 1 < 2 = 1;");
        CHECK.tellWrong(1, "method g(x, y) if^");
        CHECK.tellWrong(1, "method g(x, y) if ^= 1;");
        CHECK.tellWrong(1, "method g(x, y) if x ^= 1;");
        CHECK.tellWrong(1, "method g(x, y) if x < ^= 1;");
        CHECK.tellWrong(1, "method g(x, y) if x < ^(y) = 1;");
        CHECK.tellWrong(1, "method g(x, y) if (x ^) < y = 1;");
        CHECK.tellWrong(1, "method g(x, y) if x + ^y < 1 = 1;");
        CHECK.tellWrong(1, "method g(x, y) if x + ^-1 < 1 = 1;");
        CHECK.tellWrong(1, "method g(x, y) if x + 1 ^+ 1 < 1 = 1;");
        CHECK.tellWrong(1, "method g(x, y) if 1 ^+ x < 1 = 1;");
        CHECK.tellWrong(1, "method g(x, y) if -^x < 1 = 1;");
        CHECK.tellWrong(1, "method g(x, y) if 1 ^is Int = 1;");
        CHECK.tellWrong(1, "method g(x, y) if x + 1 ^is Int = 1;");
        CHECK.tellWrong(1, "method g(x, y) if x is ^1 = 1;");
        CHECK.tellWrong(1, "method g(x, y) if x < 1 ^< y = 1;");
        CHECK.tellWrong(1, "method g(x, y) if x < 1 and ^= 1;");
        CHECK.tellWrong(1, "method g(x, y) if x < 1 ^not y < 1 = 1;");
        CHECK.tellWrong(1, "method g(x, y) if (x < 1 ^= 1;");
        CHECK.tellWrong(1, "method g(x, y) if x ^* 2 < 1 = 1;");
    }

    private static void expressions() {
        CHECK.anew();
        CHECK.tell("kind A; layer L; " + F + G);
        CHECK.program("let x = 1 then if x then with L do 2 else without L do try fail 3 on y do show #y");
        CHECK.program("1 + 2 * -3 / 4 - (5) < f(6) + g(7, 8)");
        CHECK.program("#A(1) + ##2 is Any");
        CHECK.program("f(let x = 1 then x)");
        CHECK.programWrong(1, "^");
        CHECK.programWrong(1, "1 ^;");
        CHECK.programWrong(1, "1 ^2");
        CHECK.programWrong(1, "1 +^");
        CHECK.programWrong(1, "1 + ^let x = 1 then x");
        CHECK.programWrong(1, "1 < 2 ^< 3");
        CHECK.programWrong(1, "1 is A ^is A");
        CHECK.programWrong(1, "1 < ^show 2");
        CHECK.programWrong(1, "1 is ^1");
        CHECK.programWrong(1, "-^f(1)");
        CHECK.programWrong(1, "-^(1)");
        CHECK.programWrong(1, "- ^-1");
        CHECK.programWrong(1, "^+1");
        CHECK.programWrong(1, "(1^");
        CHECK.programWrong(1, "(^)");
        CHECK.programWrong(1, "f(^)");
        CHECK.programWrong(1, "f(1,^)");
        CHECK.programWrong(1, "f(1^");
        CHECK.programWrong(1, "#^");
        CHECK.programWrong(1, "#-^");
        CHECK.programWrong(1, "let ^1 = 2 then 3");
        CHECK.programWrong(1, "let x ^== 2 then 3");
        CHECK.programWrong(1, "let x = 2 ^do 3");
        CHECK.programWrong(1, "if 1 then 2^");
        CHECK.programWrong(1, "if 1 ^else 2");
        CHECK.programWrong(1, "with ^do 2");
        CHECK.programWrong(1, "with L ^then 2");
        CHECK.programWrong(1, "try 1 on ^do 2");
        CHECK.programWrong(1, "try 1 ^do 2");
        CHECK.programWrong(1, "show^");
        CHECK.programWrong(1, "fail ^)");
        CHECK.programWrong(1, "^kind A;");
    }

    private static String times(int n, String part) {
        return new String(new char[n]).replace("\0", part);
    }

    private static void openAtOnce() {
        CHECK.anew();
        CHECK.tell(F);
        // E and P count one each: the P in five brackets is the twelfth
        CHECK.gives(times(5, "(") + "1" + times(5, ")"), 1);
        CHECK.programWrong(1, times(6, "(") + "^1" + times(6, ")"));
        CHECK.gives(times(10, "#") + "1 + 1", 2);
        CHECK.gives("1 + " + times(10, "#") + "1", 2);
        CHECK.programWrong(1, times(11, "#") + "^1");
        CHECK.gives(times(10, "show ") + "1", 1);
        CHECK.programWrong(1, times(11, "show ") + "^1");
        CHECK.programWrong(1, times(12, "show ") + "^show 1");
        CHECK.programWrong(1, times(12, "show ") + "^");
        CHECK.programWrong(1, "f(f(f(f(f(f(^1))))))");
        CHECK.program("f(f(f(f(f(1)))))");
        CHECK.tell("layer L;");
        String[] forms = {"if #1 then 2 else 3", "if 1 then #2 else 3", "if 1 then 2 else #3", "let x = #1 then x", "let x = 1 then #x",
            "with L do #1", "without L do #1", "try #1 on x do x", "try 1 on x do #x", "fail #1", "show #1", "f(1)", "(1) + (1)"};
        for (String form : forms) {
            CHECK.program(times(8, "show ") + form);
            String deeper = times(9, "show ") + form;
            int at = Math.max(deeper.indexOf('#'), deeper.indexOf("(1")) + 1;
            CHECK.programWrong(1, deeper.substring(0, at) + "^" + deeper.substring(at));
        }
        CHECK.tell("method f(x) = " + times(5, "(") + "1" + times(5, ")") + " + " + times(5, "(") + "1" + times(5, ")") + ";");
        CHECK.tell("method f(x) if " + times(11, "not ") + "x < 1 = 1;");
        CHECK.tellWrong(1, "method f(x) if " + times(12, "not ") + "^x < 1 = 1;");
        CHECK.tell("method f(x) if " + times(11, "(") + "x < 1" + times(11, ")") + " = 1;");
        CHECK.tellWrong(1, "method f(x) if " + times(12, "(") + "^x < 1" + times(12, ")") + " = 1;");
    }

    private static void toldAlready() {
        CHECK.anew();
        CHECK.tell("kind A; layer L; " + F);
        for (String name : "Any Int Fault A L f".split(" ")) {
            CHECK.tellWrong(2, "kind ^" + name + ";");
            CHECK.tellWrong(2, "call ^" + name + "(1) best left;");
            CHECK.tellWrong(2, "layer ^" + name + ";");
        }
        CHECK.tellWrong(2, "kind B; layer ^B;");
        CHECK.tellWrong(2, "call h(1) sum near; kind ^h;");
        CHECK.tellWrong(2, "method f(x, ^x) = 1;");
        CHECK.tell("method f(A) = A + A(1);");
        CHECK.gives("f(2)", 3);
        CHECK.gives("let f = 3 then f + f(f)", 3 + 4);
    }

    private static void notTold() {
        CHECK.anew();
        CHECK.tell("kind A; layer L; " + F + G);
        CHECK.tellWrong(3, "kind B < ^C;");
        CHECK.tellWrong(3, "kind B < ^B;");
        CHECK.tellWrong(3, "kind B < ^C; kind C;");
        CHECK.tellWrong(3, "kind B < A, ^L;");
        CHECK.tellWrong(3, "kind B < ^f;");
        CHECK.tellWrong(3, "method ^h(x) = 1;");
        CHECK.tellWrong(3, "method ^A(x) = 1;");
        CHECK.tellWrong(3, "method ^L(x) = 1;");
        CHECK.tellWrong(3, "method ^h(x) = 1; call h(1) best left;");
        CHECK.tellWrong(3, "method f(x: ^B) = 1;");
        CHECK.tellWrong(3, "method f(x: ^f) = 1;");
        CHECK.tellWrong(3, "method f(x) in ^M = 1;");
        CHECK.tellWrong(3, "method f(x) in ^A = 1;");
        CHECK.tellWrong(3, "method f(x) if ^y < 1 = 1;");
        CHECK.tellWrong(3, "method f(x) if 1 < ^y = 1;");
        CHECK.tellWrong(3, "method f(x) if ^A is A = 1;");
        CHECK.tellWrong(3, "method f(x) if x is ^B = 1;");
        CHECK.tellWrong(3, "method f(x) = ^y;");
        CHECK.tellWrong(3, "method f(x) = ^A;");
        CHECK.tellWrong(3, "method f(x) = ^f;");
        CHECK.tellWrong(3, "method f(x) = ^x(1);");
        CHECK.tellWrong(3, "method f(x) = ^L(1);");
        CHECK.tellWrong(3, "method f(x) = x is ^L;");
        CHECK.tellWrong(3, "method f(x) = with ^A do 1;");
        CHECK.tellWrong(3, "method f(x) = without ^M do 1;");
        CHECK.tellWrong(3, "method f(x) = let y = ^y then 1;");
        CHECK.tellWrong(3, "method f(x) = (let y = 1 then y) + ^y;");
        CHECK.tellWrong(3, "method f(x) = try ^y on y do 1;");
        CHECK.tellWrong(3, "method f(x) = (try 1 on y do y) + ^y;");
        CHECK.tellWrong(3, "method f(x) = x; method g(y, z) = ^x;");
        CHECK.tellWrong(3, "method f(x) if x < ^y = let y = 1 then y;");
        CHECK.tell("method f(x) = let x = x + 1 then try fail x on x do x + f(x);");
        CHECK.programWrong(3, "^next");
        CHECK.programWrong(3, "1 + ^next(2)");
        CHECK.programWrong(3, "^x");
    }

    private static void howMany() {
        CHECK.anew();
        CHECK.tell("kind A; " + F + G);
        CHECK.tellWrong(4, "call h(^0) best left;");
        CHECK.tellWrong(4, "call h(^4) best left;");
        CHECK.tellWrong(4, "method f(x, ^y) = 1;");
        CHECK.tellWrong(4, "method f(x, ^y: Int == 3, z) = 1;");
        CHECK.tellWrong(4, "method g(x^) = 1;");
        CHECK.tellWrong(4, "method g(x: A == -1 ^) = 1;");
        CHECK.tellWrong(4, "method g(x, y, ^z) = 1;");
        CHECK.tellWrong(4, "method f(x) = f(1, ^2);");
        CHECK.tellWrong(4, "method f(x) = f(1, ^(2), 3);");
        CHECK.tellWrong(4, "method f(x) = g(1^);");
        CHECK.tellWrong(4, "method f(x) = g(1, 2, ^-3);");
        CHECK.tellWrong(4, "method f(x) = A(1, ^if 1 then 2 else 3);");
        CHECK.tellWrong(4, "method f(x) = next(1, ^2);");
        CHECK.tellWrong(4, "method g(x, y) = next(1^);");
        CHECK.tellWrong(4, "method g(x, y) = next(f(1), f(f(2), ^3));");
        CHECK.tell("method g(x, y) = next(x, y) + f(x) + A(y);");
        CHECK.programWrong(4, "g(f(1)^)");
        CHECK.anew();
        CHECK.tell(G);
        CHECK.tellWrong(4, "method g(x^) = 1;");
        CHECK.tellWrong(4, "method g(x, y) = next(1^);");
    }

    private static void rows() {
        CHECK.anew();
        CHECK.tell("kind A; kind B < A;");
        CHECK.tellWrong(5, "kind C < A, ^A;");
        CHECK.tellWrong(5, "kind C < A, B, ^A;");
        CHECK.tellWrong(5, "kind ^C < A, B;");
        CHECK.tellWrong(5, "kind ^C < Any, A;");
        CHECK.tell("kind C < B, A, Any;");
        CHECK.tellWrong(3, "kind D < A, B, ^E;");
        CHECK.tellWrong(5, "kind D < Any, A, ^Any;");
        CHECK.tell("kind X; kind Y; kind P < X, Y; kind Q < Y, X;");
        CHECK.tellWrong(5, "kind ^R < P, Q;");
    }

    private static void bareOnes() {
        CHECK.anew();
        CHECK.tell("kind A bare; kind B < A; " + F);
        CHECK.tellWrong(6, "method f(x) = ^A(1);");
        CHECK.tellWrong(6, "method f(x) = ^Any(1);");
        CHECK.tellWrong(6, "method f(x) = ^A(1, 2);");
        CHECK.tellWrong(3, "method f(x) = ^A;");
        CHECK.tell("method f(x: A) if x is A = B(1) is A;");
        CHECK.gives("f(B(2))", 1);
        CHECK.programWrong(6, "1 + ^A(y)");
    }

    private static void tooMany() {
        CHECK.anew();
        StringBuilder kinds = new StringBuilder();
        for (int i = 0; i < 21; i++) {
            kinds.append("kind K").append(i).append("; ");
        }
        CHECK.tellWrong(7, kinds + "kind ^X;");
        CHECK.tell(kinds.toString());
        CHECK.tellWrong(7, "kind ^X < K1, Y;");
        CHECK.tellWrong(2, "kind ^K1;");
        StringBuilder calls = new StringBuilder();
        for (int i = 0; i < 24; i++) {
            calls.append("call f").append(i).append("(1) best left; ");
        }
        CHECK.tellWrong(7, calls + "call ^g(9) sum near;");
        CHECK.tell(calls.toString());
        CHECK.tellWrong(7, "call ^g(1) best left;");
        CHECK.tell("layer L1; layer L2; layer L3; layer L4; layer L5; layer L6; layer L7; layer L8;");
        CHECK.tellWrong(7, "layer ^L9;");
        StringBuilder methods = new StringBuilder();
        for (int i = 0; i < 120; i++) {
            methods.append("method f0(x == ").append(i).append(") = 1; ");
        }
        CHECK.tellWrong(7, methods + "method ^f1(x) = y;");
        CHECK.tell(methods.toString());
        CHECK.tellWrong(7, "method ^f1(x) = 1;");
        CHECK.tellWrong(3, "method ^g(x) = 1;");
        CHECK.house().drop(5);
        CHECK.tellWrong(7, "method ^f1(x) = 1;");
        CHECK.due("methods told", CHECK.house().count(2), 120);
        CHECK.due("methods of f0", CHECK.house().call(0, 0), 119);
        CHECK.anew();
        CHECK.tell(G);
        CHECK.tell("method g(x, y) if x<1 or x<2 or x<3 or x<4 or x is Int or x<6 = 1;");
        CHECK.tellWrong(7, "method g(x, y) if x<1 or x<2 or (x<3 or not x<4) or x is Int or x<6 or ^y is Int = 1;");
        CHECK.tellWrong(7, "method g(x, y) if x<1 or x<2 or x<3 and x<4 or x is Int or x<6 or not ^-7<x or z<1 = 1;");
        CHECK.tellWrong(3, "method g(x, y) if x<1 or x<2 or x<3 or x<4 or x is Int or x<6 or ^z<x = 1;");
    }

    private static void tooManyNodes() {
        CHECK.anew();
        CHECK.tell(F);
        CHECK.programWrong(7, times(150, "1+") + "^1");
        CHECK.gives("#1" + times(149, "+1"), 150);
        CHECK.steps(300);
        CHECK.programWrong(7, "#1" + times(149, "+1") + " ^+ 1 - 1");
        CHECK.programWrong(7, "#1" + times(149, "+1") + " ^< 2");
        CHECK.programWrong(7, "#1" + times(149, "+1") + " ^is Int");
        String almost = "##" + times(149, "1+");
        CHECK.programWrong(7, almost + "^-1");
        CHECK.programWrong(7, almost + "((^let x = 1 then x))");
        CHECK.programWrong(7, almost + "(^try fail 1 on x do x)");
        CHECK.programWrong(7, almost + "^f(1)");
        CHECK.programWrong(3, almost + "^x");
        CHECK.programWrong(3, almost + "^next");
        CHECK.programWrong(7, almost + "^#1");
        CHECK.programWrong(7, "show " + times(149, "1+") + "1 ^is Int");
        CHECK.programWrong(7, "if 1 then 2 else " + times(148, "1+") + "1 ^- 1");
        CHECK.tellWrong(7, "method f(x) = " + almost + "^x;");
        CHECK.tellWrong(7, "method f(x) = " + almost + "^next(y);");
        CHECK.tell("method f(x) = #x" + times(149, "+x") + ";");
        CHECK.gives("f(2)", 300);
        CHECK.steps(302);
    }

    private static void twins() {
        CHECK.anew();
        CHECK.tell("kind A; layer L; layer M; " + F + G + "method f(x) = 1;");
        CHECK.tellWrong(2, "method ^f(y: Any) = 2;");
        CHECK.tellWrong(2, "method f(x: A) = 1; method ^f(x: A) = 2;");
        CHECK.tell("method f(x: Int) = 2; method f(x == 1) = 2; method f(x == 2) = 2; method f(x == 0) = 2;");
        CHECK.tellWrong(2, "method ^f(z == 0) = 2;");
        CHECK.tell("method f(x) around = 1; method f(x) before = 1; method f(x) behind = 1;");
        CHECK.tellWrong(2, "method ^f(x) behind = 2;");
        CHECK.tell("method f(x) in L = 1; method f(x) in M = 1;");
        CHECK.tellWrong(2, "method ^f(x) in M = 1;");
        CHECK.tell("method f(x) if x < 1 = 1; method f(x) if x < 1 = 1;");
        CHECK.tellWrong(3, "method f(x) = ^y;");
        CHECK.tell("method g(x == 1, y) = 1; method g(x, y == 1) = 1;");
        CHECK.tellWrong(2, "method ^g(y, x == 1) = 1;");
        CHECK.due("drop", CHECK.house().drop(1), true);
        CHECK.tell("method f(x) = 5;");
        CHECK.tellWrong(2, "method ^f(x) = 5;");
    }

    private static void whichIsFirst() {
        CHECK.anew();
        CHECK.tell("kind A; " + F);
        CHECK.tellWrong(1, "kind A; kind B < C; kind ^;");
        CHECK.tellWrong(2, "kind ^A < C; kind D < E;");
        CHECK.tellWrong(3, "kind B; method f(x) = ^A + y; kind A;");
        CHECK.tellWrong(4, "method f(x, ^y: B) = z;");
        CHECK.tellWrong(2, "method f(x, ^x) = 1;");
        CHECK.tellWrong(3, "method f(x) = f(1, ^y);");
        CHECK.tellWrong(4, "method f(x) = f(1, ^2 + y);");
        CHECK.tellWrong(2, "kind B; kind ^B; kind C < C;");
        CHECK.programWrong(1, "x + y(1, 2) + ^");
    }

    private static void wrongChangesNothing() {
        CHECK.anew();
        CHECK.tell("kind A; layer L; " + F + "method f(x) = 1;");
        CHECK.gives("f(1)", 1);
        CHECK.tellWrong(3, "kind B; layer M; call h(1) best left; method f(x: B) = 2; method f(x: Int) = 3; kind C < ^D;");
        CHECK.tellWrong(1, "kind B; layer M; call h(1) best left; method f(x: B) = 2; method f(x: Int) = 3; kind^");
        int[] counts = {4, 1, 1, 1};
        for (int i = 0; i < counts.length; i++) {
            CHECK.due("count " + i, CHECK.house().count(i), counts[i]);
        }
        CHECK.due("methods of f", CHECK.house().call(0, 0), 1);
        CHECK.due("run of the program that stays", CHECK.house().run(), 0);
        CHECK.due("its value", CHECK.house().told(2), 1);
        CHECK.tell("layer B; kind M; method f(x: M) = 4;");
        CHECK.gives("f(M(1)) + f(1)", 5);
        CHECK.tellWrong(7, "method f(x: A) = " + times(150, "1+") + "^1; method f(x: Int) = 1;");
        CHECK.gives("f(M(1)) + f(1)", 5);
        CHECK.programWrong(7, times(150, "1+") + "^1" + times(300, "+1"));
        CHECK.gives("f(M(1)) + f(1)", 5);
        CHECK.steps(8);
    }

    private static void programs() {
        DispatchHouse house = CHECK.anew();
        CHECK.gives("1", 1);
        CHECK.programWrong(3, "^x");
        CHECK.throwing("run of no program", IllegalStateException.class, house::run);
        CHECK.due("the latest run", house.told(2), 1);
        CHECK.gives("2", 2);
        CHECK.programWrong(1, "1 ^)");
        CHECK.throwing("run of no program", IllegalStateException.class, house::run);
        CHECK.program("3");
        CHECK.tell(F + "method f(x) = x + 1;");
        CHECK.due("run of the program told before", house.run(), 0);
        CHECK.due("its value", house.told(2), 3);
        CHECK.program("f(1)");
        CHECK.tell("method f(x: Int) = 10;");
        CHECK.due("run by the world as it is", house.run(), 0);
        CHECK.due("its value", house.told(2), 10);
        house.drop(2);
        CHECK.due("run behind drop", house.run(), 0);
        CHECK.due("its value", house.told(2), 2);
        CHECK.due("an empty tape", house.count(6), 0);
    }
}
