/** Term 1: the edges of signs and of what may stand where, a test for each sentence. */
public final class EdgesOfSignsTest {
    private static final Check CHECK = new Check();
    private static final int ALL_BYTES = 256;
    private static final String WORDS = "kind bare call layer method around before behind in if and or not is best sum all any"
        + " least left each near let then else with without do try on fail show next";

    public static void main(String[] args) {
        tape();
        longestSigns();
        blanks();
        remarks();
        firstOfNames();
        restOfNames();
        lengthsOfNames();
        differentNames();
        longNames();
        numbers();
        words();
        oneDeclaration();
        endsTooEarly();
        endsOfTapes();
        noSign();
        kindsAndCalls();
        layersAndMethods();
        tests();
        expressions();
        programs();
        openInE();
        openInTest();
        openSideBySide();
        CHECK.done();
    }

    private static void tape() {
        DispatchHouse house = CHECK.sentence("THE TAPE has at most 8192 bytes");
        String text = "kind A;" + Check.times(8172 - 7, " ");
        CHECK.feed(text);
        CHECK.due("a full tape", house.feed(0x20202020, 0x20202020, 0x20202020, 0x206B696E, 0x6420423B), 8192);
        CHECK.due("tell of a full tape", house.tell(), -1);
        CHECK.due("its first and its last bytes were read", house.count(0), 5);
    }

    private static void longestSigns() {
        CHECK.sentence("SIGNS, each as long as can be");
        CHECK.gives("2<=2", 1);
        CHECK.programWrong(1, "2< ^=2");
        CHECK.gives("2==2", 1);
        CHECK.programWrong(1, "2^= =2");
        CHECK.programWrong(1, "2==^=2");
        CHECK.programWrong(1, "2<=^=2");
        CHECK.programWrong(1, "let x^==1 then x");
        CHECK.programWrong(1, "12^ab");
        CHECK.gives("let x=1then if x then 2else 3", 2);
        CHECK.programWrong(3, "^show1");
        CHECK.programWrong(3, "^ifx");
        CHECK.tellWrong(1, "^kindA;");
        CHECK.tell("kind ifs;kind i;kind f_if;");
        CHECK.tellWrong(1, "kind B ^<=i;");
        CHECK.tell("kind B<i;");
    }

    private static boolean isLetter(int b) {
        return b >= 'a' && b <= 'z' || b >= 'A' && b <= 'Z' || b == '_';
    }

    private static boolean isBlank(int b) {
        return b == 9 || b == 10 || b == 13 || b == 32;
    }

    private static void tellsAt(String text, int want) {
        CHECK.feed(text);
        CHECK.due("tell with byte " + (int) text.charAt(text.length() - 3) + " in " + text, CHECK.house().tell(), want);
        CHECK.due("REASON of " + text, CHECK.house().count(4), want < 0 ? 0 : 1);
    }

    private static void blanks() {
        CHECK.sentence("blanks (9, 10, 13, 32) and remarks between");
        for (int b = 0; b < ALL_BYTES; b++) {
            CHECK.anew();
            String text = "kind A;kind" + (char) b + "B;";
            // a letter or digit goes to the word before it; a remark goes up to the end; all others can't stand there
            boolean inName = isLetter(b) || b >= '0' && b <= '9';
            tellsAt(text, isBlank(b) ? -1 : inName ? 7 : b == '$' ? text.length() : 11);
        }
        CHECK.anew();
        CHECK.tell("\t\r\n kind\t\r\n A\t\r\n ;\t\r\n ");
        CHECK.tell("layer L;call f(1)best left;method f(x:A==-1)in L if x<1and not x==2or x is A=1;");
    }

    private static void remarks() {
        CHECK.sentence("remarks ($ up to a byte 10 or the end)");
        CHECK.tell("kind A$;\n;");
        CHECK.tell("kind$ kind B; \r still in it $ and here\nC;");
        CHECK.tellWrong(1, "kind D $;\r;^");
        CHECK.tell("kind D;$");
        CHECK.tell("$\nkind E;$\n");
        CHECK.tell("$$\n$\n\nkind F;$ no byte 10 behind: kind G;");
        CHECK.tell("kind$\0\u00FF.!\"%&'?@[]^`{|}~>\u0080\nG;");
        CHECK.tellWrong(1, "^ki$\nnd H;");
        CHECK.due("kinds", CHECK.house().count(0), 9);
        CHECK.gives("1$0\n+$\n2$3", 3);
    }

    private static void firstOfNames() {
        CHECK.sentence("NAMES: a .. z, A .. Z, _ (the first byte)");
        for (int b = 0; b < ALL_BYTES; b++) {
            CHECK.anew();
            String text = "kind " + (char) b + "1;";
            tellsAt(text, isLetter(b) ? -1 : isBlank(b) ? 6 : b == '$' ? text.length() : 5);
        }
    }

    private static void restOfNames() {
        CHECK.sentence("and behind these also 0 .. 9");
        for (int b = 0; b < ALL_BYTES; b++) {
            CHECK.anew();
            boolean inName = isLetter(b) || b >= '0' && b <= '9';
            if (inName) {
                String name = "a" + (char) b + "z";
                CHECK.tell("kind a; kind z; kind az; kind " + name + ";");
                CHECK.tellWrong(2, "kind ^" + name + ";");
            } else {
                String text = "kind A" + (char) b + "1;";
                tellsAt(text, isBlank(b) || b == '<' || b == ';' ? 7 : b == '$' ? text.length() : 6);
            }
        }
        CHECK.anew();
        CHECK.tell("kind a0123456789; kind _; kind __; kind _0;");
    }

    private static void lengthsOfNames() {
        CHECK.sentence("at most 16");
        for (int length = 1; length <= 20; length++) {
            CHECK.anew();
            String name = "abcdefghijklmnopqrstuvwxyz".substring(0, length);
            if (length <= 16) {
                CHECK.tell("kind " + name + ";");
                CHECK.tellWrong(2, "layer ^" + name + ";");
            } else {
                CHECK.tellWrong(1, "kind ^" + name + ";");
                CHECK.programWrong(1, "1 + ^" + name);
                CHECK.programWrong(1, "let ^" + name + " = 1 then 1");
            }
        }
        CHECK.anew();
        CHECK.tell("kind a234567890123456; kind a234567890123457; $ abcdefghijklmnopqrstuvwxyz");
        CHECK.tellWrong(1, "kind ^a2345678901234567;");
        CHECK.tellWrong(2, "kind ^a234567890123456;");
        CHECK.tellWrong(1, "kind ^_________________;");
        CHECK.tellWrong(1, "kind ^" + Check.times(300, "kind") + ";");
    }

    private static void differentNames() {
        CHECK.sentence("NAMES (two are the same if all their bytes are)");
        String all = "abcdefghijklmnopqrstuvwxyzABCDEFGHIJKLMNOPQRSTUVWXYZ_0123456789";
        for (int i = 0; i < all.length(); i++) {
            for (int j = 0; j < i; j++) {
                CHECK.anew();
                String one = all.substring(i, i + 1);
                String other = all.substring(j, j + 1);
                CHECK.tell("kind x" + one + ";kind x" + other + ";kind abcdefghijk" + one + ";kind abcdefghijk" + other + ";"
                    + "kind x" + one + "9;kind x" + other + "9;kind abcdefghijk" + one + "9;kind abcdefghijk" + other + "9;");
            }
        }
        String name = "abcdefghijklmnop";
        for (int i = 0; i < 16; i++) {
            for (char other : new char[] {'q', 'A', '_'}) {
                CHECK.anew();
                CHECK.tell("kind " + name + "; kind " + name.substring(0, i) + other + name.substring(i + 1) + ";");
                CHECK.tellWrong(2, "kind ^" + name + ";");
            }
            if (i > 0) {
                CHECK.tell("kind " + name.substring(0, i) + ";");
            }
        }
        CHECK.anew();
        CHECK.tell("kind a; kind aa; kind aaa; kind aaaaaaaaaaa; kind aaaaaaaaaa; kind aaaaaaaaaaaa;");
    }

    private static void longNames() {
        CHECK.sentence("NAMES, at most 16 (as long as can be, wherever they stand)");
        CHECK.tell("kind abcdefghijklmnoK; kind abcdefghijklmnoJ < abcdefghijklmnoK; layer abcdefghijklmnoL; layer abcdefghijklmnoM;"
            + "call abcdefghijklmnof(2) best left; call abcdefghijklmnog(1) best left; method abcdefghijklmnog(abcdefghijklmnox) = abcdefghijklmnox;"
            + "method abcdefghijklmnof(abcdefghijklmnox: abcdefghijklmnoK, abcdefghijklmnoy: abcdefghijklmnoJ) in abcdefghijklmnoL "
            + "if abcdefghijklmnox is abcdefghijklmnoJ and abcdefghijklmnox < abcdefghijklmnoy = abcdefghijklmnox * 10 + abcdefghijklmnoy;");
        CHECK.gives("let abcdefghijklmnox = 1 then let abcdefghijklmnoy = 2 then with abcdefghijklmnoL do abcdefghijklmnof("
            + "abcdefghijklmnoJ(abcdefghijklmnox), abcdefghijklmnoJ(abcdefghijklmnoy)) * (without abcdefghijklmnoM do abcdefghijklmnog(100)) + "
            + "(try fail abcdefghijklmnoK(3) on abcdefghijklmnoz do abcdefghijklmnoz is abcdefghijklmnoK)", 1201);
        CHECK.programWrong(3, "let abcdefghijklmnox = 1 then ^abcdefghijklmnoy");
        CHECK.programWrong(3, "^abcdefghijklmnoh(1)");
        CHECK.programWrong(3, "with ^abcdefghijklmnoN do 1");
        CHECK.tellWrong(3, "method abcdefghijklmnog(abcdefghijklmnox) if ^abcdefghijklmnoy < 1 = 1;");
        CHECK.tellWrong(2, "method abcdefghijklmnof(abcdefghijklmnox, ^abcdefghijklmnox) = 1;");
        CHECK.tellWrong(3, "kind A < ^abcdefghijklmnoA;");
    }

    private static void numbers() {
        CHECK.sentence("numbers: digits, an int");
        CHECK.gives("0", 0);
        CHECK.gives("-0", 0);
        CHECK.gives("00000000000000000000000012", 12);
        CHECK.gives("2147483647", 2147483647);
        CHECK.gives("-2147483647", -2147483647);
        CHECK.gives("00000000002147483647", 2147483647);
        CHECK.programWrong(1, "^2147483648");
        CHECK.programWrong(1, "-^2147483648");
        CHECK.programWrong(1, "^4294967295");
        CHECK.programWrong(1, "^4294967297");
        CHECK.programWrong(1, "^9223372036854775807");
        CHECK.programWrong(1, "^18446744073709551617");
        CHECK.programWrong(1, "^340282366920938463463374607431768211457");
        CHECK.programWrong(1, "^" + Check.times(400, "10"));
        CHECK.tell("call f(1) best left; method f(x == -2147483647) if x < 2147483647 and x - 2147483647 < 0 = 1;");
        CHECK.tellWrong(1, "method f(x == ^2147483648) = 1;");
        CHECK.tellWrong(1, "method f(x == -^2147483648) = 1;");
        CHECK.tellWrong(1, "method f(x) if x < ^2147483648 = 1;");
        CHECK.tellWrong(1, "method f(x) if x + ^2147483648 < 1 = 1;");
    }

    private static void words() {
        CHECK.sentence("These are words, no NAMES");
        String[] words = WORDS.split(" ");
        CHECK.due("words", words.length, 33);
        for (String word : words) {
            CHECK.anew();
            CHECK.tellWrong(1, "kind ^" + word + ";");
            CHECK.tellWrong(1, "layer ^" + word + ";");
            CHECK.tellWrong(1, "call ^" + word + "(1) best left;");
            CHECK.programWrong(1, "let ^" + word + " = 1 then 1");
            CHECK.tell("kind " + word + "s; kind " + word.toUpperCase() + "; kind _" + word + "; kind " + word + "0;");
            String shorter = word.substring(0, word.length() - 1);
            if (!(" " + WORDS + " ").contains(" " + shorter + " ")) {
                CHECK.tell("kind " + shorter + ";");
            }
        }
    }

    private static void oneDeclaration() {
        CHECK.sentence("TEXT: {DECLARATION}, one at least");
        CHECK.tellWrong(1, "^");
        CHECK.tellWrong(1, " ^");
        CHECK.tellWrong(1, "\n\n\r\t ^");
        CHECK.tellWrong(1, "$^");
        CHECK.tellWrong(1, "$ kind A;\n^");
        CHECK.tellWrong(1, "^;");
        CHECK.tell("kind A;");
        CHECK.tellWrong(1, "kind B; ^;");
        CHECK.tellWrong(1, "kind B; ^B");
        CHECK.tell("kind B; kind C;");
    }

    /** All that a right text (its signs with one blank between) begins with ends too early, but for what is fine itself. */
    private static void prefixes(boolean isText, String right, String... fine) {
        String[] signs = right.split(" ");
        StringBuilder part = new StringBuilder();
        for (int i = 0; i < signs.length - 1; i++) {
            part.append(i == 0 ? "" : " ").append(signs[i]);
            String text = part.toString();
            if (java.util.Arrays.asList(fine).contains(text)) {
                continue;
            }
            CHECK.anew();
            CHECK.tell("kind A; layer L; call f ( 2 ) best left;");
            for (String behind : new String[] {"^", " \n ^", "$ more^"}) {
                if (isText) {
                    CHECK.tellWrong(1, text + behind);
                } else {
                    CHECK.programWrong(1, text + behind);
                }
            }
        }
    }

    private static void endsTooEarly() {
        CHECK.sentence("the text's length, if it ends too early");
        prefixes(true, "kind B < A , Int bare ;");
        prefixes(true, "call g ( 1 ) best left ;");
        prefixes(true, "layer M ;");
        prefixes(true, "method f ( x : A == - 1 , y ) around in L if not ( x is A or y + 1 < - 2 ) and y == y = x + y ;");
        prefixes(false, "let x = 1 then if x then 2 else 3", "let x = 1 then x");
        prefixes(false, "with L do without L do try fail 1 on x do show f ( x , # x )", "with L do without L do try fail 1 on x do show f");
        prefixes(false, "( 1 + 2 * - 3 ) < A ( 4 )", "( 1 + 2 * - 3 )", "( 1 + 2 * - 3 ) < A");
    }

    private static void endsOfTapes() {
        CHECK.sentence("the text's length, if it ends too early (at lengths that are powers of two)");
        for (int length = 128; length <= 8192; length *= 2) {
            for (String last : new String[] {"kind A;$ a remark", "kind A <", "kind A", "kind A < Int,", "call f(12", "call f(1) best left; method f(x)=",
                "kind A;"}) {
                DispatchHouse house = CHECK.anew();
                String text = Check.times(length - last.length(), " ") + last;
                if (length < 8192) {
                    CHECK.feed(text);
                } else {
                    CHECK.feed(text.substring(0, 8172));
                    byte[] rest = text.substring(8172).getBytes();
                    int[] five = new int[5];
                    for (int j = 0; j < 20; j++) {
                        five[j / 4] = five[j / 4] << 8 | rest[j];
                    }
                    house.feed(five[0], five[1], five[2], five[3], five[4]);
                }
                CHECK.due("bytes", house.count(6), length);
                CHECK.due("tell of " + length + " bytes up to " + last, house.tell(), last.startsWith("kind A;") ? -1 : length);
            }
        }
    }

    private static void noSign() {
        CHECK.sentence("a byte that begins no sign: its PLACE");
        String marks = "\0!\"%&'.>?@[\\]^`{|}~\u007F\u0080\u00FF\u0001\u000B\u000C\u001F\u00A0";
        for (int i = 0; i < marks.length(); i++) {
            CHECK.anew();
            CHECK.feed("kind A; " + marks.charAt(i));
            CHECK.due("tell with byte " + (int) marks.charAt(i), CHECK.house().tell(), 8);
            CHECK.due("REASON", CHECK.house().count(4), 1);
            CHECK.feed("1 " + marks.charAt(i) + " 2");
            CHECK.due("program with byte " + (int) marks.charAt(i), CHECK.house().program(), 2);
        }
        CHECK.anew();
        CHECK.tellWrong(1, "kind ^; .");
        CHECK.tellWrong(1, "kind A < B; ^.");
        String right = "kind A ; call f ( 1 ) best left ; method f ( x : A == 1 ) if x < 1 = x ;";
        for (int at = 0; at <= right.length(); at++) {
            if (at == right.length() || right.charAt(at) == ' ') {
                CHECK.tellWrong(1, right.substring(0, at) + "^." + right.substring(at));
            }
        }
    }

    private static void kindsAndCalls() {
        CHECK.sentence("kind NAME [< NAME {, NAME}] [bare] ; | call NAME ( number ) JOIN WAY ;");
        CHECK.tell("kind A; kind B bare; kind C < A; kind D < A, B bare; kind E < A, B, Int;");
        CHECK.tellWrong(1, "kind F ^A;");
        CHECK.tellWrong(1, "kind F <^;");
        CHECK.tellWrong(1, "kind F < ^bare;");
        CHECK.tellWrong(1, "kind F < A ^B;");
        CHECK.tellWrong(1, "kind F < A,^;");
        CHECK.tellWrong(1, "kind F < A ^< B;");
        CHECK.tellWrong(1, "kind F bare ^< A;");
        CHECK.tellWrong(1, "kind F bare ^bare;");
        CHECK.tellWrong(1, "kind F < ^1;");
        for (String join : "best sum all any least".split(" ")) {
            for (String way : "left each near".split(" ")) {
                CHECK.tell("call " + join + way + " ( 1 ) " + join + " " + way + " ;");
            }
        }
        CHECK.tellWrong(1, "call f ^best left;");
        CHECK.tellWrong(1, "call f(^) best left;");
        CHECK.tellWrong(1, "call f(^x) best left;");
        CHECK.tellWrong(1, "call f(^-1) best left;");
        CHECK.tellWrong(1, "call f(1 ^, 2) best left;");
        CHECK.tellWrong(1, "call f(1) ^;");
        CHECK.tellWrong(1, "call f(1) ^left;");
        CHECK.tellWrong(1, "call f(1) best^;");
        CHECK.tellWrong(1, "call f(1) ^left best;");
        CHECK.tellWrong(1, "call f(1) best left ^near;");
        for (String word : WORDS.split(" ")) {
            if (!"best sum all any least".contains(word)) {
                CHECK.tellWrong(1, "call f(1) ^" + word + " left;");
            }
        }
        CHECK.anew();
        for (String word : WORDS.split(" ")) {
            if (!"left each near".contains(word)) {
                CHECK.tellWrong(1, "call f(1) best ^" + word + ";");
            }
        }
    }

    private static void layersAndMethods() {
        CHECK.sentence("layer NAME ; | method NAME ( SPEC {, SPEC} ) [around | before | behind] [in NAME] [if TEST] = E ;");
        CHECK.tell("layer L; kind A; call f(1) best left; call g(3) best left;");
        CHECK.tellWrong(1, "layer ^;");
        CHECK.tellWrong(1, "layer M ^, N;");
        CHECK.tell("method f(x) = 1; method f(x) around = 1; method f(x) before in L = 1; method f(x) behind if x < 1 = 1;");
        CHECK.tell("method f(x) in L = 1; method f(x) in L if x < 1 = 1; method f(x) around in L if x < 1 = 1;");
        CHECK.tell("method g(x, y: A, z: A == -1) = 1; method g(x == 0, y, z) = 1;");
        CHECK.tellWrong(1, "method f ^= 1;");
        CHECK.tellWrong(1, "method f(^) = 1;");
        CHECK.tellWrong(1, "method g(x, ^, z) = 1;");
        CHECK.tellWrong(1, "method g(x, y, z^;) = 1;");
        CHECK.tellWrong(1, "method f(^1) = 1;");
        CHECK.tellWrong(1, "method f(x ^A) = 1;");
        CHECK.tellWrong(1, "method f(x: ^1) = 1;");
        CHECK.tellWrong(1, "method f(x: A ^: A) = 1;");
        CHECK.tellWrong(1, "method f(x ^= 1) = 1;");
        CHECK.tellWrong(1, "method f(x == ^A) = 1;");
        CHECK.tellWrong(1, "method f(x == 1 ^== 1) = 1;");
        CHECK.tellWrong(1, "method f(x == 1 ^: A) = 1;");
        CHECK.tellWrong(1, "method f(x == -^-1) = 1;");
        CHECK.tellWrong(1, "method f(x == ^+1) = 1;");
        CHECK.tellWrong(1, "method f(x) around ^around = 1;");
        CHECK.tellWrong(1, "method f(x) in L ^before = 1;");
        CHECK.tellWrong(1, "method f(x) in L ^in L = 1;");
        CHECK.tellWrong(1, "method f(x) in ^= 1;");
        CHECK.tellWrong(1, "method f(x) if x < 1 ^in L = 1;");
        CHECK.tellWrong(1, "method f(x) if x < 1 ^if x < 2 = 1;");
        CHECK.tellWrong(1, "method f(x) ^;");
        CHECK.tellWrong(1, "method f(x) ^== 1;");
        CHECK.tellWrong(1, "method f(x) =^;");
        CHECK.tellWrong(1, "method f(x) = 1 ^= 1;");
        CHECK.tellWrong(1, "method f(x) = 1 ^method f(x) = 2;");
    }

    private static void tests() {
        CHECK.sentence("TEST: T {or T}; T: U {and U}; U: not U | ( TEST ) | NAME is NAME | TERM (< | <= | ==) TERM");
        CHECK.tell("call f(2) best left;");
        for (String right : ("x<1,x<=1,x==1,1<x,-1<-2,x<y,x+1<y-1,x is Int,not x<1,not not x<1,(x<1),((x<1)),x<1 and y<1,"
            + "x<1 or y<1,not x<1 and not y<1,(x<1 or y<1) and x is Any,not (x<1 and y is Int)").split(",")) {
            CHECK.tell("method f(x, y) if " + right + " = 1;");
        }
        for (String wrong : ("^|1 ^|x ^|-^x<1|x ^> 1|x+^x<1|x+^-1<1|x+1^+1<1|1^+1<x|1^-x<x|x<-^y|x<1^+1|x< ^|x<1^<2|x ^*2<1|(x^)<1|x<^(1)|"
            + "x<1 ^not y<1|x<1 and ^|x<1 or ^|x<1 and ^or y<1|not ^|(x<1 ^|(^)|x is ^|x is ^1|1 ^is Int|x+1 ^is Int|x is ^not Int|x<1^)|"
            + "^# x<1|x<^next|f^(1,2)<1|x<1 ^, y<1").split("\\|")) {
            CHECK.tellWrong(1, "method f(x, y) if " + wrong + (wrong.endsWith("^") ? "= 1;" : " = 1;"));
        }
    }

    private static void expressions() {
        CHECK.sentence("E: let .. | if .. | with .. | C; C: A [(< | <= | ==) A | is NAME]; A: M {(+ | -) M}; M: P {(* | /) P}; P: ..");
        CHECK.tell("kind A; layer L; call f(1) best left; call g(2) best left;");
        for (String right : ("1|-1|1+2-3|1*2/3|1 < 2|1 <= 2|1 == 2|1 is A|-1 - -1|#1|##-1|(1)|((1))|f(1)|f((1))|f(let x = 1 then x)|"
            + "g(1, if 1 then 2 else 3)|A(show 1)|(show 1) + (fail 2)|1 + f(1) < g(1, 2) * #3|let x = let y = 1 then y then x|"
            + "if if 1 then 0 else 1 then 2 else 3|try try 1 on x do 2 on y do 3|with L do without L do 1|show show 1|fail 1 < 2|"
            + "#A(1) is Any|try with L do fail 1 on x do let x = x then x").split("\\|")) {
            CHECK.program(right);
        }
        CHECK.anew();
        CHECK.tell("kind A; layer L; call f(1) best left; call g(2) best left;");
        for (String wrong : ("1 ^2|1 ^x|1 +^|1 + ^+ 2|1 + ^* 2|^* 1|^+ 1|- ^- 1|-^(1)|-^f(1)|-^#1|#^|#^+1|1 < 2 ^< 3|1 < 2 ^is A|1 is A ^< 1|"
            + "1 is ^1|1 is^|1 < ^show 1|1 + ^let x = 1 then x|1 + ^if 1 then 2 else 3|# ^fail 1|(^)|(1^|(1 ^, 2)|1^)|f(^)|f(1,^)|f(1 ^2)|f(^, 1)|"
            + "f(1) ^(2)|let ^1 = 1 then 1|let x ^: 1 then 1|let x = ^then 1|let x = 1 ^in 1|let x = 1 then^|if^|if 1 ^do 2 else 3|"
            + "if 1 then 2 ^;|if 1 then 2 else^|with ^1 do 1|with L ^then 1|with L do^|without ^do 1|try^|try 1 ^do 1|try 1 on ^1 do 1|"
            + "try 1 on x ^then 1|try 1 on x do^|fail^|show^|^do|^bare|^=|^,").split("\\|")) {
            CHECK.programWrong(1, wrong);
        }
    }

    private static void programs() {
        CHECK.sentence("A PROGRAM is an E");
        CHECK.programWrong(1, "^");
        CHECK.programWrong(1, " \t\n^");
        CHECK.programWrong(1, "$1^");
        CHECK.programWrong(1, "1^;");
        CHECK.programWrong(1, "^kind A;");
        CHECK.programWrong(1, "^= 1");
        CHECK.programWrong(1, "1 ^1");
        CHECK.gives("\n1 $", 1);
    }

    /** E and P that count to n, the last one a P: its text, with ^ where the n-th begins. */
    private static String hashes(int n) {
        return Check.times(n - 2, "#") + "^1";
    }

    private static void openInE() {
        CHECK.sentence("At most 12 of E, P, U may be open in one another in an E");
        CHECK.gives(hashes(12).replace("^", ""), 1);
        CHECK.programWrong(1, hashes(13));
        CHECK.programWrong(1, hashes(13) + "#");
        CHECK.programWrong(1, Check.times(11, "#") + "^#1");
        CHECK.programWrong(1, Check.times(11, "#") + "^");
        CHECK.gives(Check.times(5, "(") + "1" + Check.times(5, ")"), 1);
        CHECK.programWrong(1, Check.times(6, "(") + "^1" + Check.times(6, ")"));
        CHECK.programWrong(1, Check.times(6, "(") + "^(1" + Check.times(7, ")"));
        CHECK.gives(Check.times(10, "show ") + "1", 1);
        CHECK.programWrong(1, Check.times(11, "show ") + "^1");
        CHECK.programWrong(1, Check.times(11, "show ") + "^x");
        // the twelfth E is fine, what is in it is not
        CHECK.programWrong(1, Check.times(12, "show ") + "^show 1");
        CHECK.programWrong(1, Check.times(11, "show ") + "let x = ^1 then x");
        CHECK.programWrong(1, Check.times(11, "show ") + "if ^1 then 2 else 3");
        CHECK.programWrong(1, Check.times(6, "(") + "^)" + Check.times(5, ")"));
        CHECK.programWrong(1, Check.times(6, "Int(") + "^)" + Check.times(5, ")"));
        CHECK.programWrong(1, "1 + " + Check.times(11, "#") + "^+ 1");
        CHECK.programWrong(1, Check.times(12, "show ") + "^");
        CHECK.anew();
        CHECK.gives(Check.times(4, "(") + "##1" + Check.times(4, ")"), 1);
        CHECK.programWrong(1, Check.times(4, "(") + "###^1" + Check.times(4, ")"));
        CHECK.anew();
        CHECK.tell("kind A; layer L; call f(1) best left;");
        // what is marked is a P in a P in an E in an E, so with eight of show around it it is the twelfth
        String[] forms = {"let x = #^1 then x", "let x = 1 then #^x", "if #^1 then 2 else 3", "if 1 then #^2 else 3",
            "if 1 then 2 else #^3", "with L do #^1", "without L do #^1", "try #^1 on x do x", "try 1 on x do #^x", "fail #^1", "show #^1"};
        for (String form : forms) {
            CHECK.program(Check.times(8, "show ") + form.replace("^", ""));
            CHECK.programWrong(1, Check.times(9, "show ") + form);
        }
        CHECK.anew();
        CHECK.tell("kind A; layer L; call f(1) best left; call g(2) best left;");
        for (String form : new String[] {"f(^1)", "A(^1)", "(^1)", "g(^1, 2)"}) {
            CHECK.program(Check.times(8, "show ") + form.replace("^", ""));
            CHECK.programWrong(1, Check.times(9, "show ") + form);
        }
        CHECK.program(Check.times(9, "show ") + "#1");
        CHECK.programWrong(1, Check.times(10, "show ") + "#^1");
        CHECK.tell("method f(x) = " + Check.times(8, "show ") + "next(x);");
        CHECK.tellWrong(1, "method f(x) = " + Check.times(9, "show ") + "next(^x);");
        CHECK.tell("method f(x: Int) = " + Check.times(10, "show ") + "next;");
    }

    private static void openInTest() {
        CHECK.sentence("At most 12 of E, P, U may be open in one another in a TEST");
        CHECK.tell("call f(1) best left;");
        CHECK.tell("method f(x) if " + Check.times(11, "not ") + "x < 1 = 1;");
        CHECK.tellWrong(1, "method f(x) if " + Check.times(12, "not ") + "^x < 1 = 1;");
        CHECK.tellWrong(1, "method f(x) if " + Check.times(12, "not ") + "^not x < 1 = 1;");
        CHECK.tell("method f(x) if " + Check.times(11, "(") + "x < 1" + Check.times(11, ")") + " = 1;");
        CHECK.tellWrong(1, "method f(x) if " + Check.times(12, "(") + "^x < 1" + Check.times(12, ")") + " = 1;");
        CHECK.tell("method f(x) if " + Check.times(5, "not (") + "not x < 1" + Check.times(5, ")") + " = 1;");
        CHECK.tellWrong(1, "method f(x) if " + Check.times(6, "not (") + "^x < 1" + Check.times(6, ")") + " = 1;");
        CHECK.tellWrong(1, "method f(x) if " + Check.times(12, "(") + "^)" + Check.times(11, ")") + " = 1;");
        CHECK.tellWrong(1, "method f(x) if " + Check.times(12, "not ") + "^= 1;");
        CHECK.tellWrong(1, "method f(x) if x < 0 or " + Check.times(6, "not (") + "^x is Int" + Check.times(6, ")") + " = 1;");
    }

    private static void openSideBySide() {
        CHECK.sentence("open in one another (what is closed again does not count)");
        CHECK.tell("call f(1) best left; call g(3) best left; layer L;");
        String five = Check.times(5, "(") + "1" + Check.times(5, ")");
        CHECK.gives(five + " + " + five + " * " + five, 2);
        CHECK.gives(five + " < " + five, 0);
        CHECK.tell("method g(x, y, z) = x + y + z;");
        String four = Check.times(4, "(") + "1" + Check.times(4, ")");
        CHECK.gives("g(" + four + ", " + four + ", " + four + ")", 3);
        CHECK.tell("method f(x) if " + Check.times(11, "not ") + "x < 1 and " + Check.times(11, "(") + "x < 2" + Check.times(11, ")")
            + " = " + five + ";");
        CHECK.tell("method f(x: Int) = " + five + "; method f(x: Fault) = " + five + ";");
        CHECK.gives(Check.times(10, "show ") + "1", 1);
        CHECK.program("if " + Check.times(9, "show ") + "1 then " + Check.times(9, "show ") + "1 else " + Check.times(9, "show ") + "1");
        CHECK.program("1" + Check.times(99, " + #1"));
    }
}
