/** Term 1: WRONG and its RULES, a test for each sentence that names an edge. */
public final class EdgesOfRulesTest {
    private static final Check CHECK = new Check();
    private static final String WORLD = "kind A; kind Z bare; layer L; call f(1) best left; call g(2) best left; call h(3) best left; ";

    public static void main(String[] args) {
        signsBeforeRules();
        firstOfRules();
        leastReason();
        toldAlready();
        namesOfSpecs();
        noKind();
        noCall();
        noLayer();
        toldBefore();
        noVariable();
        neitherKindNorCall();
        noSpec();
        nextOutside();
        numberOfCall();
        specs();
        arguments();
        argumentsOfNext();
        argumentOfKind();
        rowThatCannotBe();
        sameParent();
        bareKinds();
        kinds();
        calls();
        methods();
        layers();
        comparisons();
        nodes();
        placesOfNodes();
        manyNodes();
        allAtOnce();
        twins();
        lookedAtLast();
        CHECK.done();
    }

    private static void world(String sentence) {
        CHECK.sentence(sentence);
        CHECK.tell(WORLD);
    }

    private static void signsBeforeRules() {
        world("WRONG: the first sign that can't stand there, REASON 1; if there is none, the first that breaks a RULE");
        CHECK.tellWrong(1, "kind A; kind A < Q; kind ^");
        CHECK.tellWrong(1, "kind A; kind B < Q; ^.");
        CHECK.tellWrong(1, "method q(x, x) = y + ^");
        CHECK.tellWrong(1, "kind A; kind ^12345678901234567;");
        CHECK.tellWrong(1, "call A(^99999999999) best left;");
        CHECK.tellWrong(1, "kind ^; kind ; .");
        CHECK.programWrong(1, "q + next(1, Z(1)) ^;");
        CHECK.programWrong(1, "q + " + Check.times(11, "#") + "^1");
        CHECK.tellWrong(2, "kind ^A;");
    }

    private static void firstOfRules() {
        world("of the first sign that breaks a RULE");
        CHECK.tellWrong(2, "kind ^A < Q; kind B < Q;");
        CHECK.tellWrong(3, "kind B < ^Q; kind A;");
        CHECK.tellWrong(4, "call q(^0) best left; kind A;");
        CHECK.tellWrong(3, "method f(x) = ^q + Z(1) + f(1, 2);");
        CHECK.tellWrong(6, "method f(x) = ^Z(1) + q + f(1, 2);");
        CHECK.tellWrong(4, "method f(x) = f(1, ^2) + q + Z(1);");
        CHECK.tellWrong(4, "method f(x, ^y) = q;");
        CHECK.tellWrong(3, "method f(x: ^Q) in Q if q < 1 = q;");
        CHECK.tellWrong(3, "method f(x) in ^Q if q < 1 = q;");
        CHECK.tellWrong(3, "method f(x) if ^q < 1 = Z(q);");
        // the arguments are behind the NAME, the ) behind what stands in them
        CHECK.tellWrong(3, "method f(x) = g(^q);");
        CHECK.tellWrong(6, "method f(x) = ^Z(q, 2);");
        CHECK.tellWrong(3, "method g(x: ^Q) = 1;");
    }

    private static void leastReason() {
        world("(the least REASON of these)");
        CHECK.tellWrong(2, "method f(x, ^x) = 1;");
        CHECK.tellWrong(3, "method f(x) = f(1, ^q);");
        CHECK.tellWrong(3, "method f(x) = A(1, ^q(1));");
        CHECK.tellWrong(4, "method f(x) = f(1, ^Z(1));");
        CHECK.tellWrong(4, "method f(x) = f(1, ^2);");
        CHECK.programWrong(3, Check.times(150, "1+") + "^q");
        CHECK.programWrong(3, Check.times(150, "1+") + "^next");
        CHECK.programWrong(6, Check.times(150, "1+") + "^Z(1)");
        CHECK.programWrong(4, "f(" + Check.times(149, "1+") + "1, ^2)");
        CHECK.tellWrong(3, "method f(x) if " + Check.times(6, "x<1 or ") + "^q<1 = 1;");
        CHECK.tell(kinds(19, "K"));
        CHECK.tellWrong(2, "kind ^A;");
        CHECK.tellWrong(7, "kind ^B;");
    }

    private static void toldAlready() {
        CHECK.sentence("RULE 2: a NAME that is to be told and is told already by a kind, call or layer (of the WORLD too)");
        CHECK.tell("kind A; call f(1) best left; layer L;");
        for (String name : "Any Int Fault A f L".split(" ")) {
            CHECK.tellWrong(2, "kind ^" + name + ";");
            CHECK.tellWrong(2, "call ^" + name + "(1) best left;");
            CHECK.tellWrong(2, "layer ^" + name + ";");
        }
        for (String first : new String[] {"kind N; ", "call N(1) best left; ", "layer N; "}) {
            CHECK.tellWrong(2, first + "kind ^N;");
            CHECK.tellWrong(2, first + "call ^N(2) sum near;");
            CHECK.tellWrong(2, first + "layer ^N;");
        }
        // a WRONG text told nothing, and a NAME of a SPEC or variable is not told
        CHECK.tell("method f(N) = let M = N then M; kind N; layer M;");
        CHECK.anew();
        CHECK.tell("kind a; kind A; layer aA;");
    }

    private static void namesOfSpecs() {
        world("RULE 2: a SPEC's NAME that its method has already");
        CHECK.tellWrong(2, "method g(x, ^x) = 1;");
        CHECK.tellWrong(2, "method h(x, y, ^x) = 1;");
        CHECK.tellWrong(2, "method h(x, y, ^y) = 1;");
        CHECK.tellWrong(2, "method h(x, ^x, x) = 1;");
        CHECK.tellWrong(2, "method g(x: A == 1, ^x: Int == 2) = 1;");
        CHECK.tell("method h(A, f, L) = A + f + L; method g(Int, g) = Int(Int) + g; method g(x, y: A) = 1; method g(x: A, y) = 1;");
        CHECK.gives("h(1, 2, 3)", 6);
    }

    private static void noKind() {
        world("RULE 3: a NAME that is no kind where one is wanted");
        for (String name : "q f L x".split(" ")) {
            CHECK.tellWrong(3, "kind B < ^" + name + ";");
            CHECK.tellWrong(3, "kind B < A, ^" + name + ";");
            CHECK.tellWrong(3, "method f(x: ^" + name + ") = 1;");
            CHECK.tellWrong(3, "method g(x, y: ^" + name + ") = 1;");
            CHECK.tellWrong(3, "method f(x) if x is ^" + name + " = 1;");
            CHECK.tellWrong(3, "method f(x) = x is ^" + name + ";");
        }
        CHECK.tell("kind B < A, Any; method f(x: Fault) if x is Any = x is Z;");
    }

    private static void noCall() {
        world("RULE 3: a NAME that is no call where one is wanted");
        for (String name : "q A L Int x".split(" ")) {
            CHECK.tellWrong(3, "method ^" + name + "(x) = 1;");
        }
        CHECK.tellWrong(3, "method ^q(x, y, z, u, v) = 1;");
        CHECK.tellWrong(3, "method ^q(x) = next(1, 2, 3, 4);");
        CHECK.tell("method f(x) = 1;");
    }

    private static void noLayer() {
        world("RULE 3: a NAME that is no layer where one is wanted");
        for (String name : "q A f x".split(" ")) {
            CHECK.tellWrong(3, "method f(x) in ^" + name + " = 1;");
            CHECK.tellWrong(3, "method f(x) = with ^" + name + " do 1;");
            CHECK.tellWrong(3, "method f(x) = without ^" + name + " do 1;");
        }
        CHECK.tell("method f(x) in L = with L do without L do 1;");
    }

    private static void toldBefore() {
        world("RULE 3: (told before it, or in the WORLD; a method's own call too)");
        CHECK.tellWrong(3, "kind B < ^C; kind C;");
        CHECK.tellWrong(3, "kind B < ^B;");
        CHECK.tellWrong(3, "method ^q(x) = 1; call q(1) best left;");
        CHECK.tellWrong(3, "method f(x: ^B) = 1; kind B;");
        CHECK.tellWrong(3, "method f(x) in ^M = 1; layer M;");
        CHECK.tellWrong(3, "method f(x) = ^q(1); call q(1) best left;");
        CHECK.tellWrong(3, "method f(x) = ^B(1); kind B;");
        CHECK.tellWrong(3, "method f(x) = with ^M do 1; layer M;");
        CHECK.tell("kind B; kind C < B; layer M; call q(1) best left; method q(x: C) in M = with M do q(C(x is B));");
        CHECK.tell("kind D < C; method q(x: D) in M = with M do q(D(x is C));");
        CHECK.tell("method f(x) = f(x) + g(1, 2);");
        // names of methods before do not stay
        CHECK.tellWrong(3, "method f(x: A) = 1; method g(y, z) = ^x;");
    }

    private static void noVariable() {
        world("RULE 3: in E a NAME without ( that is no variable there");
        for (String name : "q A Int f g L".split(" ")) {
            CHECK.tellWrong(3, "method f(x) = ^" + name + ";");
            CHECK.programWrong(3, "^" + name);
        }
        CHECK.programWrong(3, "let x = ^x then 1");
        CHECK.programWrong(3, "(let x = 1 then x) + ^x");
        CHECK.programWrong(3, "try ^x on x do 1");
        CHECK.programWrong(3, "(try 1 on x do x) + ^x");
        CHECK.programWrong(3, "let x = 1 then ^y");
        CHECK.programWrong(3, "if (let x = 1 then x) then ^x else 2");
        CHECK.gives("let x = 1 then (let y = x then y) + x", 2);
        CHECK.gives("let x = 1 then try fail x on y do x + y", 2);
        CHECK.tellWrong(3, "method f(x) if x < 1 = ^y;");
    }

    private static void neitherKindNorCall() {
        world("RULE 3: a NAME with ( that is neither kind nor call");
        for (String name : "q L x".split(" ")) {
            CHECK.tellWrong(3, "method f(x) = ^" + name + "(1);");
            CHECK.tellWrong(3, "method f(x) = ^" + name + "(1, 2, 3, 4);");
        }
        CHECK.programWrong(3, "let x = 1 then ^x(1)");
        CHECK.gives("let A = 1 then #A(A) + A", 2);
    }

    private static void noSpec() {
        world("RULE 3: in TEST a NAME that is none of the method's SPECS");
        for (String name : "y A f L".split(" ")) {
            CHECK.tellWrong(3, "method f(x) if ^" + name + " < 1 = 1;");
            CHECK.tellWrong(3, "method f(x) if ^" + name + " + 1 < 1 = 1;");
            CHECK.tellWrong(3, "method f(x) if 1 <= ^" + name + " = 1;");
            CHECK.tellWrong(3, "method f(x) if x == ^" + name + " - 1 = 1;");
            CHECK.tellWrong(3, "method f(x) if ^" + name + " is A = 1;");
        }
        CHECK.tellWrong(3, "method g(x, y) if x < ^z = let z = 1 then z;");
        CHECK.tell("method h(x, y, z) if z < y and x is A = 1;");
    }

    private static void nextOutside() {
        world("RULE 3: next outside of a method (at next)");
        CHECK.programWrong(3, "^next");
        CHECK.programWrong(3, "1 + ^next(1)");
        CHECK.programWrong(3, "^next(1, 2, 3, 4)");
        CHECK.programWrong(3, "f(^next)");
        CHECK.tell("method f(x) = next + next(1);");
        CHECK.programWrong(3, "^next");
    }

    private static void numberOfCall() {
        CHECK.sentence("RULE 4: a call's number that is not 1 to 3 (at it)");
        CHECK.tellWrong(4, "call f(^0) best left;");
        CHECK.tellWrong(4, "call f(^4) best left;");
        CHECK.tellWrong(4, "call f(^00) best left;");
        CHECK.tellWrong(4, "call f(^2147483647) best left;");
        CHECK.tell("call a(1) best left; call b(2) best left; call c(3) best left;");
        CHECK.due("calls", CHECK.house().count(1), 3);
    }

    private static void specs() {
        world("RULE 4: as many SPECS as its call has places (at the first SPEC's sign too many, at the ) if they are too few)");
        CHECK.tellWrong(4, "method f(x, ^y) = 1;");
        CHECK.tellWrong(4, "method f(x, ^y, z, u) = 1;");
        CHECK.tellWrong(4, "method g(x ^) = 1;");
        CHECK.tellWrong(4, "method g(x: A == -1 ^) = 1;");
        CHECK.tellWrong(4, "method g(x, y, ^z: A) = 1;");
        CHECK.tellWrong(4, "method h(x^) = 1;");
        CHECK.tellWrong(4, "method h(x, y^) = 1;");
        CHECK.tellWrong(4, "method h(x, y, z, ^u) = 1;");
        CHECK.tell("method f(x) = 1; method g(x, y) = 1; method h(x, y, z) = 1;");
        CHECK.anew();
        CHECK.tell("call g(2) best left;");
        CHECK.tellWrong(4, "method g(x^) = 1;");
        CHECK.tellWrong(4, "method g(x, y, ^z) = 1;");
        CHECK.tellWrong(4, "method g(x, y) = g(1^);");
        CHECK.tellWrong(4, "method g(x, y) = next(1^);");
    }

    private static void arguments() {
        world("RULE 4: as many arguments of a call as it has places (at the first sign too many, at the ) if they are too few)");
        CHECK.programWrong(4, "f(1, ^2)");
        CHECK.programWrong(4, "f(1, ^2, 3)");
        CHECK.programWrong(4, "f(1, ^-2)");
        CHECK.programWrong(4, "f(1, ^(2))");
        CHECK.programWrong(4, "f(1, ^let x = 1 then x)");
        CHECK.programWrong(4, "g(1^)");
        CHECK.programWrong(4, "g((1) ^)");
        CHECK.programWrong(4, "g(1, 2, ^3 + 4)");
        CHECK.programWrong(4, "h(1^)");
        CHECK.programWrong(4, "h(1, 2^)");
        CHECK.programWrong(4, "h(1, 2, 3, ^4)");
        CHECK.programWrong(4, "f(f(1, ^2), 3)");
        CHECK.programWrong(4, "g(f(1), g(2^))");
        CHECK.program("f(1) + g(1, 2) + h(1, 2, 3)");
    }

    private static void argumentsOfNext() {
        world("RULE 4: as many arguments of next with ( as its call has places");
        CHECK.tellWrong(4, "method f(x) = next(1, ^2);");
        CHECK.tellWrong(4, "method g(x, y) = next(1^);");
        CHECK.tellWrong(4, "method g(x, y) = next(1, 2, ^3);");
        CHECK.tellWrong(4, "method h(x, y, z) = next(1, 2^);");
        CHECK.tellWrong(4, "method h(x, y, z) = next(1, 2, 3, ^4);");
        CHECK.tell("method f(x) = next(1); method g(x, y) = next(1, 2); method h(x, y, z) = next(1, 2, 3);");
        // next without ( has none, whatever its call has
        CHECK.tell("method f(x: A) = next; method g(x: A, y) = next; method h(x: A, y, z) = next;");
    }

    private static void argumentOfKind() {
        world("RULE 4: one argument of a kind");
        CHECK.programWrong(4, "A(1, ^2)");
        CHECK.programWrong(4, "Int(1, ^2, 3)");
        CHECK.programWrong(4, "Fault(1, ^f(2))");
        CHECK.programWrong(1, "A(^)");
        CHECK.program("A(1)");
    }

    private static void rowThatCannotBe() {
        CHECK.sentence("RULE 5: a kind whose ROW by WAY 0 cannot be made (at its NAME)");
        CHECK.tell("kind A; kind B < A; kind X; kind Y; kind P < X, Y; kind Q < Y, X;");
        CHECK.tellWrong(5, "kind ^C < A, B;");
        CHECK.tellWrong(5, "kind ^C < Any, A bare;");
        CHECK.tellWrong(5, "kind ^C < Any, Int;");
        CHECK.tellWrong(5, "kind ^C < P, Q;");
        CHECK.tellWrong(5, "kind ^C < X, P;");
        CHECK.tell("kind C < B, A, Any; kind D < P, X, Y, Any;");
        CHECK.tellWrong(5, "kind E; kind ^F < E, C, P, Q; kind G < G;");
        // parents of kinds before are none of its own
        CHECK.tell("kind W; kind V < A, Int, W, Fault;");
        CHECK.tellWrong(5, "kind ^U < P, Q;");
        CHECK.tellWrong(5, "kind ^U < X, P;");
    }

    private static void sameParent() {
        CHECK.sentence("RULE 5: twice the same parent (at the second)");
        CHECK.tell("kind A; kind B;");
        CHECK.tellWrong(5, "kind C < A, ^A;");
        CHECK.tellWrong(5, "kind C < A, B, ^A;");
        CHECK.tellWrong(5, "kind C < A, ^A, A;");
        CHECK.tellWrong(5, "kind C < Any, ^Any;");
        CHECK.tellWrong(5, "kind C < A, ^A, Q;");
        CHECK.tellWrong(3, "kind C < ^Q, Q;");
        CHECK.tellWrong(3, "kind C < ^Q, A, A;");
        CHECK.tell("kind C < A, B;");
    }

    private static void bareKinds() {
        world("RULE 6: a bare kind with ( in E");
        CHECK.programWrong(6, "^Z(1)");
        CHECK.programWrong(6, "^Any(1)");
        CHECK.programWrong(6, "1 + ^Z(1, 2)");
        CHECK.programWrong(6, "A(^Z(1))");
        CHECK.tellWrong(6, "method f(x) = ^Z(1);");
        CHECK.tell("kind Y bare; kind X < Y;");
        CHECK.tellWrong(6, "kind V < Y bare; method f(x) = X(1) + ^V(1);");
        CHECK.programWrong(3, "^Z");
        CHECK.tell("kind W < Z; method f(x: Z) if x is Z = x is Z;");
        CHECK.gives("f(W(1)) + X(1)", 2);
    }

    private static String kinds(int n, String name) {
        StringBuilder all = new StringBuilder();
        for (int i = 0; i < n; i++) {
            all.append("kind ").append(name).append(i).append(";");
        }
        return all.toString();
    }

    private static void kinds() {
        DispatchHouse house = CHECK.sentence("RULE 7: the 25th kind (with these three)");
        CHECK.tellWrong(7, kinds(21, "K") + "kind ^X;");
        CHECK.tellWrong(7, kinds(21, "K") + "kind ^X < K0, Q; kind Y;");
        CHECK.tell(kinds(20, "K"));
        CHECK.tell("kind X < K19;");
        CHECK.due("kinds", house.count(0), 24);
        CHECK.tellWrong(7, "kind ^Y;");
        CHECK.tellWrong(7, "kind ^Y < K0, K0;");
        CHECK.tell("layer Y; call f(1) best left; method f(x: X) = #X(x);");
        CHECK.gives("f(X(7))", 7);
        house.clear();
        CHECK.tell(kinds(21, "K"));
        CHECK.tellWrong(7, "kind ^Y;");
    }

    private static String calls(int n, String name) {
        StringBuilder all = new StringBuilder();
        for (int i = 0; i < n; i++) {
            all.append("call ").append(name).append(i).append("(1)best left;");
        }
        return all.toString();
    }

    private static void calls() {
        DispatchHouse house = CHECK.sentence("RULE 7: the 25th call");
        CHECK.tellWrong(7, calls(24, "c") + "call ^x(0) best left;");
        CHECK.tell(calls(23, "c"));
        CHECK.tell("call x(3) sum near; method x(a, b, c) = a + b + c;");
        CHECK.due("calls", house.count(1), 24);
        CHECK.gives("x(1, 2, 3)", 6);
        CHECK.tellWrong(7, "call ^y(1) best left;");
        CHECK.tellWrong(2, "call ^x(1) best left;");
        house.clear();
        CHECK.tell(calls(24, "d"));
        for (int i = 0; i < 24; i++) {
            CHECK.program("d" + i + "(1)");
        }
    }

    private static String methods(int from, int till) {
        StringBuilder all = new StringBuilder();
        for (int i = from; i <= till; i++) {
            all.append("method f(x==").append(i).append(")=").append(i).append(";");
        }
        return all.toString();
    }

    private static void methods() {
        DispatchHouse house = CHECK.sentence("RULE 7: the 121st method");
        CHECK.tell("call f(1) best left; call g(2) best left;");
        CHECK.tellWrong(7, methods(1, 120) + "method ^g(x, y) = 1;");
        CHECK.tell(methods(1, 119));
        CHECK.tell("method g(x, y) = x + y;");
        CHECK.due("methods", house.count(2), 120);
        CHECK.gives("f(119) + g(1, 2)", 122);
        CHECK.tellWrong(7, "method ^g(x: Int, y) = q;");
        CHECK.tellWrong(7, "method ^g(x) = 1;");
        CHECK.tellWrong(7, "method ^g(x, y) = 1;");
        // numbers of those that are gone are not given again, so there is no 121st
        CHECK.due("drop", house.drop(1), true);
        CHECK.tellWrong(7, "method ^f(x == 1) = 1;");
        house.clear();
        CHECK.tell("call f(1) best left;" + methods(1, 120));
        CHECK.gives("f(120)", 120);
    }

    private static void layers() {
        DispatchHouse house = CHECK.sentence("RULE 7: the 9th layer");
        CHECK.tellWrong(7, "layer a; layer b; layer c; layer d; layer e; layer f; layer g; layer h; layer ^i;");
        CHECK.tell("layer a; layer b; layer c; layer d; layer e; layer f; layer g;");
        CHECK.tell("layer h;");
        CHECK.due("layers", house.count(3), 8);
        CHECK.tellWrong(7, "layer ^i;");
        CHECK.tellWrong(2, "layer ^a;");
        CHECK.gives("with h do with a do 1", 1);
        house.clear();
        CHECK.tell("layer i;");
    }

    private static void comparisons() {
        CHECK.sentence("RULE 7: the 7th comparison, or is, of a TEST (at its first sign)");
        CHECK.tell("call f(2) best left;");
        String six = "x<1 or x<=2 or x==3 or x is Int or y is Any or 1<2";
        CHECK.tell("method f(x, y) if " + six + " = 1;");
        for (String seventh : new String[] {"^x < 1", "^x <= 1", "^x == 1", "^x + 1 < y", "^1 < x", "^-1 < x", "^y is Int"}) {
            CHECK.tellWrong(7, "method f(x, y) if " + six + " or " + seventh + " = 1;");
            CHECK.tellWrong(7, "method f(x, y) if " + six + " and not (not " + seventh + ") = 1;");
            CHECK.tellWrong(7, "method f(x, y) if (" + six + ") and (" + seventh + " or x < 1) = 1;");
        }
        // each TEST counts for itself, and == of SPECS are none of it
        CHECK.tell("method f(x == 1, y == 2) if " + six + " = 1; method f(x: Int, y) if not (" + six + ") = 1;");
        CHECK.tell("method f(x, y: Int) if not not x<1 and (x<1 or (x<1)) and (x<1 or not x<1 and x<1) = x<1;");
    }

    /** So many nodes, with room for a P behind them. */
    private static String before(int nodes) {
        return (nodes % 2 == 0 ? "" : "#") + Check.times(nodes / 2, "1+");
    }

    private static final Object[][] FORMS = {{1, "^1"}, {1, "^-1"}, {1, "((^1))"}, {2, "#^1"}, {3, "##^1"}, {3, "1+^1"}, {3, "1-^1"},
        {3, "1*^1"}, {3, "1/^1"}, {3, "(1<^1)"}, {3, "(1<=^1)"}, {3, "(1==^1)"}, {2, "(1 ^is Int)"}, {2, "A(^1)"}, {2, "f(^1)"},
        {3, "g(1,^2)"}, {2, "(show ^1)"}, {2, "(fail ^1)"}, {2, "(with L do ^1)"}, {2, "(without L do ^1)"}, {3, "(let x = 1 then ^x)"},
        {4, "(if 1 then 2 else ^3)"}, {3, "(try 1 on x do ^x)"}, {5, "1*-2/^3"}};

    private static void nodes() {
        CHECK.sentence("RULE 7: the 301st NODE of a method's E or of PROGRAM (each let, if, with, .. is one)");
        for (Object[] form : FORMS) {
            int own = (Integer) form[0];
            String text = (String) form[1];
            CHECK.anew();
            CHECK.tell(WORLD);
            CHECK.program(before(300 - own) + text.replace("^", ""));
            CHECK.programWrong(7, before(301 - own) + text);
            CHECK.tell("method f(x) = " + before(300 - own) + text.replace("^", "") + ";");
            CHECK.tellWrong(7, "method f(x: A) = " + before(301 - own) + text + ";");
        }
        CHECK.anew();
        CHECK.tell(WORLD);
        CHECK.tell("method f(x) = " + before(299) + "x; method f(x: A) = " + before(299) + "next; method f(x: Int) = " + before(298) + "next(x);");
        CHECK.tellWrong(7, "method f(x: Fault) = " + before(300) + "^x;");
        CHECK.tellWrong(7, "method f(x: Fault) = " + before(300) + "^next;");
        CHECK.tellWrong(7, "method f(x: Fault) = " + before(299) + "next(^x);");
        // TEST and SPECS have no NODES, and each E counts for itself
        CHECK.tell("method f(x: Fault == 1) if x < 1 and x + 1 < 2 = " + before(299) + "1; method f(x: Fault) = " + before(299) + "1;");
        CHECK.program(before(299) + "1");
    }

    private static void placesOfNodes() {
        CHECK.sentence("RULE 7: (at its first sign; of two-sided ones at the sign between)");
        for (String form : new String[] {"(^let x = 1 then x)", "(^if 1 then 2 else 3)", "(^with L do 1)", "(^without L do 1)",
            "(^try 1 on x do 2)", "(^fail 1)", "(^show 1)", "^-1", "^1", "^A(1)", "^f(1)", "^#1"}) {
            CHECK.anew();
            CHECK.tell(WORLD);
            CHECK.programWrong(7, before(300) + form);
        }
        for (String form : new String[] {"1 ^+ 2", "1 ^- 2", "1 ^* 2", "1 ^/ 2", "1 ^< 2", "1 ^<= 2", "1 ^== 2", "1 ^is A", "(1) ^+ 2", "(1 ^< 2)"}) {
            CHECK.anew();
            CHECK.tell(WORLD);
            CHECK.programWrong(7, before(299) + form);
        }
    }

    /** Both sides of a tree of tries, so deep. */
    private static String tries(int deep) {
        return deep == 0 ? "x" : "try " + tries(deep - 1) + " on x do " + tries(deep - 1);
    }

    private static void manyNodes() {
        CHECK.sentence("the 301st NODE (300 of each sort run as fewer do)");
        CHECK.tell("layer L; call f(1) best left; call g(1) best left; method g(x) = #x + 1;");
        CHECK.gives("(if 1 then 2 else 3)" + Check.times(59, "+(if 0 then 2 else 3)"), 2 + 59 * 3);
        CHECK.steps(299 - 60);
        CHECK.gives("(with L do 1)" + Check.times(99, "+(with L do 1)"), 100);
        CHECK.steps(299);
        CHECK.gives("let x = 1 then " + Check.times(59, "(let x = #x then x)+") + "1", 60);
        CHECK.steps(298);
        // 1 + 2 * 127 + 31 nodes and what joins them
        CHECK.gives("let x = 5 then (" + tries(6) + ") + (" + tries(6) + ") * 10 + (" + tries(4) + ") * 100", 555);
        CHECK.tell("method f(x) = (" + tries(6) + ") + (" + tries(6) + ") * 10 + (" + tries(4) + ") * 100;");
        CHECK.tell("method f(x: Int) = next + (if x then 1000 else 2000);");
        CHECK.gives("f(5) + g(6)", 1555 + 7);
        CHECK.gives("f(0) + f(Fault(3))", 2000 + 333);
        // many long methods: each keeps its own
        CHECK.anew();
        CHECK.tell("call f(1) best left;");
        for (int i = 1; i <= 12; i++) {
            CHECK.tell("method f(x == " + i + ") = " + i + Check.times(140, "+x") + ";");
        }
        for (int i = 1; i <= 12; i++) {
            CHECK.gives("f(" + i + ")", 141 * i);
            CHECK.steps(2 + 281);
        }
    }

    private static void allAtOnce() {
        DispatchHouse house = CHECK.sentence("24 kinds, 24 calls, 120 methods, 8 layers at once");
        CHECK.tell(kinds(21, "K") + "layer L0; layer L1; layer L2; layer L3; layer L4; layer L5; layer L6; layer L7;");
        CHECK.tell(calls(23, "c") + "call c23(3)least near;");
        StringBuilder text = new StringBuilder();
        for (int i = 0; i < 119; i++) {
            text.append("method c").append(i % 23).append("(v:K").append(i % 21).append(")=let w=v then w+").append(i).append(";");
        }
        CHECK.tell(text + "method c23(u, v, w) in L7 = let a=u then let b=v then let c=w then let d=a+b+c then d;");
        int[] counts = {24, 24, 120, 8, 0};
        for (int what = 0; what < counts.length; what++) {
            CHECK.due("count " + what, house.count(what), counts[what]);
        }
        for (int i : new int[] {0, 1, 20, 21, 22, 62, 63, 64, 65, 66, 117, 118}) {
            CHECK.gives("c" + i % 23 + "(K" + i % 21 + "(5))", 5 + i);
            CHECK.ran(i + 1);
        }
        CHECK.gives("with L0 do with L7 do c23(1, 2, 3)", 6);
        CHECK.ran(120);
        CHECK.faults("c23(1, 2, 3)", 1);
        CHECK.due("methods of the last call", house.call(23, 0), 1);
        CHECK.due("methods of the first call", house.call(0, 0), 6);
        CHECK.due("methods of the call before the last", house.call(22, 0), 5);
        CHECK.due("LISTS of the first call", house.call(0, 1), 7);
        CHECK.due("CELLS of the last call", house.call(23, 2), 23 * 23 * 23);
        CHECK.due("PRESSED CELLS of the first call", house.call(0, 3), 7);
        CHECK.due("NODES of the first call", house.call(0, 4), 1);
        CHECK.due("NODES of the last call", house.call(23, 4), 0);
        CHECK.due("WHOLE of the last call", house.call(23, 5), 1);
        CHECK.due("its row", house.call(23, 8), 1);
        CHECK.due("WHOLE of the first call", house.call(0, 5), 1);
        CHECK.due("its row", house.call(0, 6), 1);
    }

    private static void twins() {
        CHECK.sentence("RULE 2: its call has one with the same kinds, the same == numbers, role and layer, both without TEST");
        CHECK.tell("kind A; layer L; layer M; call f(1) best left; call g(2) best left; call k(1) best left;");
        CHECK.tell("method f(x) = 1;");
        CHECK.tellWrong(2, "method ^f(y: Any) = 2;");
        CHECK.tell("method k(x) = 1; method f(x: A) = 1; method f(x: Int) = 1;");
        CHECK.tellWrong(2, "method ^f(x: A) = 1;");
        CHECK.tell("method f(x == 0) = 1; method f(x == 1) = 1; method f(x == -1) = 1;");
        CHECK.tellWrong(2, "method ^f(x == 0) = 1;");
        CHECK.tellWrong(2, "method ^f(x == -1) = 1;");
        CHECK.tell("method f(x) around = 1; method f(x) before = 1; method f(x) behind = 1;");
        CHECK.tellWrong(2, "method ^f(x) around = 1;");
        CHECK.tellWrong(2, "method ^f(x) before = 1;");
        CHECK.tellWrong(2, "method ^f(x) behind = 1;");
        CHECK.tell("method f(x) in L = 1; method f(x) in M = 1; method f(x) around in L = 1;");
        CHECK.tellWrong(2, "method ^f(x) in L = 1;");
        CHECK.tell("method f(x) if x < 1 = 1; method f(x) if x < 1 = 1; method f(x) around if x < 1 = 1;");
        CHECK.tellWrong(2, "method f(x: Fault) = 1; method ^f(x: Fault) = 1;");
        CHECK.tell("method g(x == 1, y) = 1; method g(x, y == 1) = 1; method g(x == 1, y == 1) = 1; method g(x: A, y) = 1; method g(x, y: A) = 1;");
        CHECK.tellWrong(2, "method ^g(x, y == 1) = 1;");
        CHECK.tellWrong(2, "method ^g(x, y: A) = 1;");
        CHECK.due("drop", CHECK.house().drop(1), true);
        CHECK.tell("method f(x) = 2;");
        CHECK.tellWrong(2, "method ^f(x) = 2;");
    }

    private static void lookedAtLast() {
        CHECK.sentence("(This, and the ROW of 5, are looked at if nothing else is broken in that DECLARATION.)");
        CHECK.tell("kind A; kind B < A; call f(1) best left; method f(x) = 1;");
        CHECK.tellWrong(3, "method f(x) = ^q;");
        CHECK.tellWrong(4, "method f(x) = f(1, ^2);");
        CHECK.tellWrong(6, "method f(x) = ^Any(1);");
        CHECK.tellWrong(2, "method ^f(x) = 1; kind C < Q;");
        CHECK.tellWrong(3, "kind C < A, B, ^Q;");
        CHECK.tellWrong(5, "kind C < A, B, ^A;");
        CHECK.tellWrong(2, "kind ^A < A, B;");
        CHECK.tellWrong(5, "kind ^C < A, B; method f(x) = q;");
        CHECK.tellWrong(1, "kind C < A, B ^method");
        CHECK.tellWrong(7, "method f(x) = " + before(300) + "^1;");
    }
}
