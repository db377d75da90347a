import java.util.ArrayList;
import java.util.List;
import java.util.Random;

/** Makes texts and programs by chance, most of them right. */
final class TextMaker {
    private final Random chance;
    private final List<String> kinds = new ArrayList<>();
    private final List<String> bareKinds = new ArrayList<>();
    private final List<String> calls = new ArrayList<>();
    private final List<Integer> places = new ArrayList<>();
    private final List<String> layers = new ArrayList<>();
    private int names;
    private final int loose;

    TextMaker(long seed) {
        chance = new Random(seed);
        // how many of eight SPECS say no kind: where many don't, methods differ by what they ask alone
        loose = 2 + 2 * (int) Math.floorMod(seed, 3L);
        forget();
    }

    void forget() {
        kinds.clear();
        bareKinds.clear();
        calls.clear();
        places.clear();
        layers.clear();
        kinds.add("Any");
        kinds.add("Int");
        kinds.add("Fault");
        bareKinds.add("Any");
    }

    int below(int n) {
        return chance.nextInt(n);
    }

    private boolean oneIn(int n) {
        return chance.nextInt(n) == 0;
    }

    private <T> T oneOf(List<T> some) {
        return some.get(chance.nextInt(some.size()));
    }

    private String oneOf(String some) {
        String[] all = some.split(" ");
        return all[chance.nextInt(all.length)];
    }

    String world(int kindCount, int callCount, int layerCount, int methodCount) {
        StringBuilder text = new StringBuilder();
        for (int i = 0; i < kindCount; i++) {
            text.append(kind());
        }
        for (int i = 0; i < layerCount; i++) {
            String name = "L" + names++;
            layers.add(name);
            text.append("layer ").append(name).append("; ");
        }
        for (int i = 0; i < callCount; i++) {
            String name = "f" + names++;
            int n = 1 + chance.nextInt(3);
            calls.add(name);
            places.add(n);
            text.append("call ").append(name).append("(").append(n).append(") ")
                .append(oneOf("best best best sum all any least")).append(" ").append(oneOf("left each near")).append(";\n");
        }
        for (int i = calls.size() - callCount; i < calls.size(); i++) {
            if (oneIn(2)) {
                text.append("method ").append(calls.get(i)).append("(").append("x, y, z", 0, 3 * places.get(i) - 2).append(") = ")
                    .append(e(new ArrayList<>(List.of("x")), 3, i)).append(";\n");
            }
        }
        for (int i = 0; i < methodCount && !calls.isEmpty(); i++) {
            text.append(method());
        }
        return text.toString();
    }

    /** Many kinds, one call of two places and many short methods. */
    String large() {
        StringBuilder text = new StringBuilder();
        for (int i = 0; i < 15; i++) {
            text.append(kind());
        }
        String name = "f" + names++;
        calls.add(name);
        places.add(2);
        text.append("call ").append(name).append("(2) ").append(oneOf("best sum least")).append(" ")
            .append(oneOf("left each near")).append("; method ").append(name).append("(x, y) = x;\n");
        java.util.Set<String> told = new java.util.HashSet<>();
        for (int i = 0; i < 70 + below(40); i++) {
            String specs = "(x: " + oneOf(kinds) + ", y: " + oneOf(kinds) + (oneIn(4) ? "== " + below(3) : "") + ")"
                + oneOf("- - - around before behind").replace("-", "");
            if (told.add(specs)) {
                text.append("method ").append(name).append(specs).append("=").append(oneOf("next show(x) 1 y+2 next+1")).append(";");
            }
        }
        return text.toString();
    }

    /** A call whose methods differ by what they ask alone. */
    String askers() {
        String name = "f" + names++;
        int n = 1 + below(3);
        calls.add(name);
        places.add(n);
        StringBuilder text = new StringBuilder("call " + name + "(" + n + ") best " + oneOf("left each near") + ";\n");
        List<String> variables = List.of("x", "y", "z").subList(0, n);
        int methods = 2 + below(4);
        for (int i = 0; i < methods; i++) {
            text.append("method ").append(name).append("(");
            for (int p = 0; p < n; p++) {
                text.append(p == 0 ? "" : ", ").append(variables.get(p)).append(oneIn(6) ? " == " + number() : "");
            }
            int[] left = {1 + below(methods < 4 ? 6 : 3)};
            text.append(") if ").append(test(variables, left, 3)).append(" = ").append(i).append(";\n");
        }
        return text.toString();
    }

    private String kind() {
        String name = "K" + names++;
        StringBuilder text = new StringBuilder("kind " + name);
        int parents = chance.nextInt(4);
        List<String> some = new ArrayList<>();
        // younger kinds first, so that most rows can be made
        for (int i = kinds.size() - 1; i >= 0 && some.size() < parents; i--) {
            if (oneIn(2)) {
                some.add(kinds.get(i));
            }
        }
        if (oneIn(25) && some.size() > 1) {
            some.add(some.remove(0));
        }
        for (int i = 0; i < some.size(); i++) {
            text.append(i == 0 ? " < " : ", ").append(some.get(i));
        }
        if (oneIn(4)) {
            text.append(" bare");
            bareKinds.add(name);
        }
        kinds.add(name);
        return text.append(";").append(oneOf("- - - $x").replace("-", " ").replace("$x", " $ if x\n")).toString();
    }

    private String number() {
        return oneIn(12) ? oneOf("2147483647 -2147483647 2147483646 -2147483646 002 7 -9 1000000 1073741824") : String.valueOf(chance.nextInt(5) - 2);
    }

    private String method() {
        int c = chance.nextInt(calls.size());
        List<String> variables = new ArrayList<>();
        StringBuilder text = new StringBuilder("method " + calls.get(c) + "(");
        int n = places.get(c) + (oneIn(100) ? 1 : 0) - (oneIn(100) ? 1 : 0);
        for (int p = 0; p < Math.max(1, n); p++) {
            String name = oneIn(100) ? "x" : "xyzw".substring(p, p + 1);
            variables.add(name);
            text.append(p == 0 ? "" : ", ").append(name);
            if (chance.nextInt(8) >= loose) {
                text.append(": ").append(oneIn(300) ? "Kx" : oneOf(kinds));
            }
            if (oneIn(6)) {
                text.append(" == ").append(number());
            }
        }
        text.append(")");
        if (oneIn(3)) {
            text.append(" ").append(oneOf("around before behind"));
        }
        if (oneIn(4) && !layers.isEmpty()) {
            text.append(" in ").append(oneOf(layers));
        }
        if (oneIn(3)) {
            int[] left = {1 + chance.nextInt(4)};
            text.append(" if ").append(test(variables, left, 3));
        }
        return text.append(" = ").append(e(variables, 4, c)).append(";\n").toString();
    }

    private String test(List<String> variables, int[] left, int deep) {
        if (left[0] <= 1 || deep == 0) {
            left[0]--;
            return comparison(variables);
        }
        switch (chance.nextInt(4)) {
            case 0:
                return "not " + (deep > 1 ? "(" + test(variables, left, deep - 1) + ")" : comparison(variables));
            case 1:
                return test(variables, left, deep - 1) + " and " + test(variables, left, deep - 1);
            case 2:
                return test(variables, left, deep - 1) + " or " + test(variables, left, deep - 1);
            default:
                return "(" + test(variables, left, deep - 1) + ")";
        }
    }

    private String comparison(List<String> variables) {
        if (oneIn(4)) {
            return oneOf(variables) + " is " + oneOf(kinds);
        }
        return term(variables) + " " + oneOf("< <= ==") + " " + term(variables);
    }

    private String term(List<String> variables) {
        if (oneIn(3)) {
            return number();
        }
        return (oneIn(200) ? "q" : oneOf(variables)) + (oneIn(2) ? oneOf("+ -") + more() : "");
    }

    private String more() {
        return oneIn(10) ? oneOf("2147483647 2147483646 1000 7") : String.valueOf(chance.nextInt(3));
    }

    String program() {
        return e(new ArrayList<>(), 6, -1);
    }

    private String e(List<String> variables, int deep, int ownCall) {
        if (deep <= 1) {
            return p(variables, 0, ownCall);
        }
        switch (chance.nextInt(16)) {
            case 0:
                List<String> more = new ArrayList<>(variables);
                String name = oneOf("x y v w");
                more.add(name);
                return "let " + name + " = " + e(variables, deep - 1, ownCall) + " then " + e(more, deep - 1, ownCall);
            case 1:
                return "if " + e(variables, deep - 1, ownCall) + " then " + e(variables, deep - 1, ownCall) + " else "
                    + e(variables, deep - 1, ownCall);
            case 2:
            case 3:
                if (!layers.isEmpty()) {
                    return oneOf("with with without") + " " + oneOf(layers) + " do " + e(variables, deep - 1, ownCall);
                }
                return e(variables, deep - 1, ownCall);
            case 4:
                List<String> other = new ArrayList<>(variables);
                String failed = oneOf("x u t");
                other.add(failed);
                return "try " + e(variables, deep - 1, ownCall) + " on " + failed + " do " + e(other, deep - 1, ownCall);
            case 5:
                return oneIn(3) ? "fail " + e(variables, deep - 1, ownCall) : "show " + e(variables, deep - 1, ownCall);
            case 6:
                return "show " + e(variables, deep - 1, ownCall);
            case 7:
                return p(variables, deep - 1, ownCall) + " " + oneOf("< <= ==") + " " + p(variables, deep - 1, ownCall);
            case 8:
                return p(variables, deep - 1, ownCall) + " is " + oneOf(kinds);
            case 9:
            case 10:
                return p(variables, deep - 1, ownCall) + " " + oneOf("+ - * /") + " " + p(variables, deep - 1, ownCall)
                    + (oneIn(2) ? " " + oneOf("+ - * /") + " " + p(variables, deep - 1, ownCall) : "");
            default:
                return p(variables, deep - 1, ownCall);
        }
    }

    private String p(List<String> variables, int deep, int ownCall) {
        int what = chance.nextInt(10);
        if (deep <= 0 || what == 0) {
            return !variables.isEmpty() && !oneIn(3) ? oneOf(variables) : oneIn(300) ? "nobody" : number();
        }
        if (what == 1) {
            return "(" + e(variables, deep - 1, ownCall) + ")";
        }
        if (what == 2) {
            return "#" + p(variables, deep - 1, ownCall);
        }
        if (what <= 4 && (ownCall >= 0 || oneIn(200))) {
            return oneIn(2) || ownCall < 0 ? "next" : "next(" + arguments(variables, deep, ownCall, places.get(ownCall)) + ")";
        }
        if (what <= 6 || calls.isEmpty()) {
            String kind = oneOf(kinds);
            for (int i = 0; i < 20 && bareKinds.contains(kind); i++) {
                kind = oneOf(kinds);
            }
            return kind + "(" + e(variables, deep - 1, ownCall) + ")";
        }
        int c = chance.nextInt(calls.size());
        return calls.get(c) + "(" + arguments(variables, deep, ownCall, places.get(c)) + ")";
    }

    private String arguments(List<String> variables, int deep, int ownCall, int n) {
        StringBuilder all = new StringBuilder();
        int off = oneIn(300) ? chance.nextInt(3) - 1 : 0;
        for (int i = 0; i < Math.max(1, n + off); i++) {
            all.append(i == 0 ? "" : ", ").append(e(variables, deep - 1, ownCall));
        }
        return all.toString();
    }

    /** Puts one name of a text in the place of another one, or a declaration once more. */
    private String mixUp(String text) {
        List<int[]> found = new ArrayList<>();
        java.util.regex.Matcher names = java.util.regex.Pattern.compile("\\b(K[0-9]+|f[0-9]+|L[0-9]+|Any|Int|Fault|[xyzw])\\b").matcher(text);
        while (names.find()) {
            found.add(new int[] {names.start(), names.end()});
        }
        if (found.isEmpty() || oneIn(4)) {
            int from = text.lastIndexOf(';', chance.nextInt(text.length())) + 1;
            int till = text.indexOf(';', from) + 1;
            return till > 0 ? text.substring(0, till) + text.substring(from, till) + text.substring(till) : text;
        }
        int[] one = oneOf(found);
        int[] other = oneOf(found);
        return text.substring(0, one[0]) + text.substring(other[0], other[1]) + text.substring(one[1]);
    }

    /** Spoils a text at one place. */
    String spoil(String text) {
        if (text.isEmpty()) {
            return "x";
        }
        if (oneIn(2)) {
            return mixUp(text);
        }
        int at = chance.nextInt(text.length());
        int till = Math.min(text.length(), at + chance.nextInt(4));
        switch (chance.nextInt(6)) {
            case 0:
                return text.substring(0, at);
            case 1:
                return text.substring(0, at) + text.substring(till);
            case 2:
                return text.substring(0, at) + oneOf("( ) , ; : = == < <= + - * / # $ ! 12345678901 abcdefghijklmnopq 5 x K0")
                    + text.substring(at);
            case 3:
                return text.substring(0, at) + " " + oneOf("kind bare call layer method around before behind in if and or"
                    + " not is best sum all any least left each near let then else with without do try on fail show next")
                    + " " + text.substring(at);
            case 4:
                return text.substring(0, at) + (char) chance.nextInt(256) + text.substring(till);
            default:
                int from = chance.nextInt(text.length());
                int to = Math.min(text.length(), from + chance.nextInt(12));
                return text.substring(0, at) + text.substring(from, to) + text.substring(till);
        }
    }
}
