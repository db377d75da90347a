import java.util.ArrayList;
import java.util.Arrays;
import java.util.Collections;
import java.util.HashMap;
import java.util.HashSet;
import java.util.LinkedHashMap;
import java.util.LinkedHashSet;
import java.util.List;
import java.util.Map;
import java.util.Set;
import java.util.TreeSet;

/**
 * The document once more, as plainly as can be and by other means: a tree of nodes that is walked, numbers that are
 * tried out, tables that are really made. It is slow; it is what DispatchHouse is held against.
 */
final class NaiveHouse {
    static final Set<String> WORDS = new HashSet<>(Arrays.asList(("kind bare call layer method around before behind in if"
        + " and or not is best sum all any least left each near let then else with without do try on fail show next")
        .split(" ")));

    static final class Sign {
        char type;
        String text;
        int place;
    }

    static final class Wrong extends RuntimeException {
        final int place;
        Wrong(int place) {
            this.place = place;
        }
    }

    static final class Node {
        String op;
        Sign at;
        Sign name;
        int number;
        boolean hasArguments;
        Sign close;
        List<Sign> firstSigns = new ArrayList<>();
        List<Node> parts = new ArrayList<>();
        Object meant;
    }

    static final class Spec {
        Sign name;
        Sign kindName;
        Integer equal;
    }

    static final class Declaration {
        String what;
        Sign name;
        List<Sign> parents = new ArrayList<>();
        boolean bare;
        Sign number;
        String join;
        String way;
        List<Spec> specs = new ArrayList<>();
        Sign close;
        String role = "plain";
        Sign layer;
        Node test;
        Node body;
    }

    static final class Kind {
        String name;
        int number;
        boolean bare;
        List<Kind> parents = new ArrayList<>();
        List<List<Kind>> rows = new ArrayList<>();

        boolean below(Kind other) {
            if (this == other) {
                return true;
            }
            for (Kind parent : parents) {
                if (parent.below(other)) {
                    return true;
                }
            }
            return false;
        }
    }

    static final class Call {
        String name;
        int places;
        String join;
        String way;
    }

    static final class Method {
        int number;
        Call call;
        List<String> names = new ArrayList<>();
        List<Kind> kinds = new ArrayList<>();
        List<Integer> equals = new ArrayList<>();
        String role;
        String layer;
        Node test;
        Node body;
        boolean gone;

        int asked() {
            int all = test == null ? 0 : comparisonsOf(test).size();
            for (Integer equal : equals) {
                all += equal == null ? 0 : 1;
            }
            return all;
        }
    }

    static final class Value {
        final Kind kind;
        final int number;
        Value(Kind kind, int number) {
            this.kind = kind;
            this.number = number;
        }
    }

    static final class Failed extends RuntimeException {
        final transient Value value;
        Failed(Value value) {
            super(null, null, false, false);
            this.value = value;
        }
    }

    static final class Over extends RuntimeException {
        final int how;
        Over(int how) {
            super(null, null, false, false);
            this.how = how;
        }
    }

    // ------------------------------------------------------------------ signs

    static List<Sign> cut(String text) {
        List<Sign> signs = new ArrayList<>();
        int at = 0;
        while (at < text.length()) {
            char c = text.charAt(at);
            if (c == 9 || c == 10 || c == 13 || c == 32) {
                at++;
                continue;
            }
            if (c == '$') {
                int line = text.indexOf('\n', at);
                at = line < 0 ? text.length() : line;
                continue;
            }
            Sign sign = new Sign();
            sign.place = at;
            int behind = at + 1;
            if (letter(c)) {
                while (behind < text.length() && (letter(text.charAt(behind)) || digit(text.charAt(behind)))) {
                    behind++;
                }
                sign.text = text.substring(at, behind);
                sign.type = WORDS.contains(sign.text) ? 'w' : sign.text.length() > 16 ? 'b' : 'n';
            } else if (digit(c)) {
                while (behind < text.length() && digit(text.charAt(behind))) {
                    behind++;
                }
                sign.text = text.substring(at, behind);
                boolean fits = new java.math.BigInteger(sign.text)
                    .compareTo(java.math.BigInteger.valueOf(Integer.MAX_VALUE)) <= 0;
                sign.type = fits ? '0' : 'b';
            } else {
                if (behind < text.length() && text.charAt(behind) == '=' && (c == '=' || c == '<')) {
                    behind++;
                }
                sign.text = text.substring(at, behind);
                sign.type = "(),;:=<+-*/#".indexOf(c) >= 0 ? 'm' : 'b';
            }
            signs.add(sign);
            at = behind;
        }
        Sign end = new Sign();
        end.type = 'e';
        end.text = "";
        end.place = text.length();
        signs.add(end);
        return signs;
    }

    static boolean letter(char c) {
        return c >= 'a' && c <= 'z' || c >= 'A' && c <= 'Z' || c == '_';
    }

    static boolean digit(char c) {
        return c >= '0' && c <= '9';
    }

    // ------------------------------------------------------------------ grammar

    private List<Sign> signs;
    private int pos;

    private Sign look() {
        return signs.get(pos);
    }

    private boolean at(String text) {
        return (look().type == 'w' || look().type == 'm') && look().text.equals(text);
    }

    private boolean atOne(String... texts) {
        for (String text : texts) {
            if (at(text)) {
                return true;
            }
        }
        return false;
    }

    private Sign want(String... texts) {
        if (!atOne(texts)) {
            throw new Wrong(look().place);
        }
        return signs.get(pos++);
    }

    private Sign wantType(char type) {
        if (look().type != type) {
            throw new Wrong(look().place);
        }
        return signs.get(pos++);
    }

    private List<Declaration> text() {
        List<Declaration> all = new ArrayList<>();
        do {
            all.add(declaration());
        } while (look().type != 'e');
        return all;
    }

    private Declaration declaration() {
        Declaration d = new Declaration();
        d.what = want("kind", "call", "layer", "method").text;
        d.name = wantType('n');
        if (d.what.equals("kind")) {
            if (at("<")) {
                do {
                    pos++;
                    d.parents.add(wantType('n'));
                } while (at(","));
            }
            if (at("bare")) {
                pos++;
                d.bare = true;
            }
        } else if (d.what.equals("call")) {
            want("(");
            d.number = wantType('0');
            want(")");
            d.join = want("best", "sum", "all", "any", "least").text;
            d.way = want("left", "each", "near").text;
        } else if (d.what.equals("method")) {
            want("(");
            d.specs.add(spec());
            while (at(",")) {
                pos++;
                d.specs.add(spec());
            }
            d.close = want(")");
            if (atOne("around", "before", "behind")) {
                d.role = look().text;
                pos++;
            }
            if (at("in")) {
                pos++;
                d.layer = wantType('n');
            }
            if (at("if")) {
                pos++;
                d.test = test(0);
            }
            want("=");
            d.body = e(0);
        }
        want(";");
        return d;
    }

    private Spec spec() {
        Spec spec = new Spec();
        spec.name = wantType('n');
        if (at(":")) {
            pos++;
            spec.kindName = wantType('n');
        }
        if (at("==")) {
            pos++;
            boolean less = at("-");
            if (less) {
                pos++;
            }
            int number = Integer.parseInt(wantType('0').text);
            spec.equal = less ? -number : number;
        }
        return spec;
    }

    private Node two(String op, Sign sign, Node left, Node right) {
        Node node = new Node();
        node.op = op;
        node.at = sign;
        node.parts.add(left);
        node.parts.add(right);
        return node;
    }

    private Node test(int open) {
        Node left = allOf(open);
        while (at("or")) {
            Sign sign = signs.get(pos++);
            left = two("or", sign, left, allOf(open));
        }
        return left;
    }

    private Node allOf(int open) {
        Node left = u(open);
        while (at("and")) {
            Sign sign = signs.get(pos++);
            left = two("and", sign, left, u(open));
        }
        return left;
    }

    private void deeper(int open) {
        if (open == 12) {
            throw new Wrong(look().place);
        }
    }

    private Node u(int open) {
        deeper(open);
        if (at("not")) {
            Node node = new Node();
            node.op = "not";
            node.at = signs.get(pos++);
            node.parts.add(u(open + 1));
            return node;
        }
        if (at("(")) {
            pos++;
            Node inner = test(open + 1);
            want(")");
            return inner;
        }
        Node node = new Node();
        node.at = look();
        Node left = term();
        if (left.op.equals("name") && left.number == 0 && !left.hasArguments && at("is")) {
            pos++;
            node.op = "is";
            node.parts.add(left);
            node.name = wantType('n');
            return node;
        }
        node.op = want("<", "<=", "==").text;
        node.parts.add(left);
        node.parts.add(term());
        return node;
    }

    private Node term() {
        Node node = new Node();
        node.at = look();
        if (look().type == 'n') {
            node.op = "name";
            node.name = signs.get(pos++);
            if (atOne("+", "-")) {
                int factor = at("+") ? 1 : -1;
                pos++;
                node.number = factor * Integer.parseInt(wantType('0').text);
                node.hasArguments = true;
            }
            return node;
        }
        node.op = "number";
        boolean less = at("-");
        if (less) {
            pos++;
        }
        int number = Integer.parseInt(wantType('0').text);
        node.number = less ? -number : number;
        return node;
    }

    private Node e(int open) {
        deeper(open);
        if (!atOne("let", "if", "with", "without", "try", "fail", "show")) {
            return compared(open + 1);
        }
        Node node = new Node();
        node.at = signs.get(pos++);
        node.op = node.at.text;
        switch (node.op) {
            case "let":
                node.name = wantType('n');
                want("=");
                node.parts.add(e(open + 1));
                want("then");
                break;
            case "if":
                node.parts.add(e(open + 1));
                want("then");
                node.parts.add(e(open + 1));
                want("else");
                break;
            case "with":
            case "without":
                node.name = wantType('n');
                want("do");
                break;
            case "try":
                node.parts.add(e(open + 1));
                want("on");
                node.name = wantType('n');
                want("do");
                break;
            default:
                break;
        }
        node.parts.add(e(open + 1));
        return node;
    }

    private Node compared(int open) {
        Node left = sum(open);
        if (atOne("<", "<=", "==")) {
            Sign sign = signs.get(pos++);
            return two(sign.text, sign, left, sum(open));
        }
        if (at("is")) {
            Node node = new Node();
            node.op = "is";
            node.at = signs.get(pos++);
            node.parts.add(left);
            node.name = wantType('n');
            return node;
        }
        return left;
    }

    private Node sum(int open) {
        Node left = product(open);
        while (atOne("+", "-")) {
            Sign sign = signs.get(pos++);
            left = two(sign.text, sign, left, product(open));
        }
        return left;
    }

    private Node product(int open) {
        Node left = p(open);
        while (atOne("*", "/")) {
            Sign sign = signs.get(pos++);
            left = two(sign.text, sign, left, p(open));
        }
        return left;
    }

    private Node p(int open) {
        deeper(open);
        Node node = new Node();
        node.at = look();
        if (at("(")) {
            pos++;
            Node inner = e(open + 1);
            want(")");
            return inner;
        }
        if (at("#")) {
            pos++;
            node.op = "#";
            node.parts.add(p(open + 1));
            return node;
        }
        if (at("-") || look().type == '0') {
            boolean less = at("-");
            if (less) {
                pos++;
            }
            int number = Integer.parseInt(wantType('0').text);
            node.op = "number";
            node.number = less ? -number : number;
            return node;
        }
        if (at("next")) {
            pos++;
            node.op = "next";
        } else {
            node.op = "name";
            node.name = wantType('n');
        }
        if (at("(")) {
            node.hasArguments = true;
            do {
                pos++;
                node.firstSigns.add(look());
                node.parts.add(e(open + 1));
            } while (at(","));
            node.close = want(")");
        }
        return node;
    }

    // ------------------------------------------------------------------ rules

    private List<Kind> kinds = new ArrayList<>();
    private List<Call> calls = new ArrayList<>();
    private List<String> layerNames = new ArrayList<>();
    private List<Method> methods = new ArrayList<>();
    private List<int[]> broken;

    private void breaks(int reason, Sign at) {
        broken.add(new int[] {at.place, reason});
    }

    private Kind kindOf(String name) {
        for (Kind kind : kinds) {
            if (kind.name.equals(name)) {
                return kind;
            }
        }
        return null;
    }

    private Call callOf(String name) {
        for (Call call : calls) {
            if (call.name.equals(name)) {
                return call;
            }
        }
        return null;
    }

    private void fresh(Sign name) {
        if (kindOf(name.text) != null || callOf(name.text) != null || layerNames.contains(name.text)) {
            breaks(2, name);
        }
    }

    private void tellKind(Declaration d) {
        fresh(d.name);
        if (kinds.size() == 24) {
            breaks(7, d.name);
        }
        Kind kind = new Kind();
        for (Sign parent : d.parents) {
            Kind one = kindOf(parent.text);
            if (one == null) {
                breaks(3, parent);
            } else if (kind.parents.contains(one)) {
                breaks(5, parent);
            } else {
                kind.parents.add(one);
            }
        }
        if (broken.isEmpty()) {
            kind.name = d.name.text;
            kind.bare = d.bare;
            kind.number = kinds.size();
            if (kind.parents.isEmpty()) {
                kind.parents.add(kinds.get(0));
            }
            if (makeRows(kind)) {
                kinds.add(kind);
            } else {
                breaks(5, d.name);
            }
        }
    }

    static boolean makeRows(Kind kind) {
        List<Kind> first = new ArrayList<>();
        first.add(kind);
        List<List<Kind>> lists = new ArrayList<>();
        for (Kind parent : kind.parents) {
            lists.add(new ArrayList<>(parent.rows.get(0)));
        }
        lists.add(new ArrayList<>(kind.parents));
        while (true) {
            lists.removeIf(List::isEmpty);
            if (lists.isEmpty()) {
                break;
            }
            Kind next = null;
            for (List<Kind> list : lists) {
                Kind head = list.get(0);
                boolean free = true;
                for (List<Kind> other : lists) {
                    free &= other.lastIndexOf(head) <= 0;
                }
                if (free) {
                    next = head;
                    break;
                }
            }
            if (next == null) {
                return false;
            }
            first.add(next);
            for (List<Kind> list : lists) {
                list.remove(next);
            }
        }
        LinkedHashSet<Kind> second = new LinkedHashSet<>();
        List<Kind> all = new ArrayList<>();
        second.add(kind);
        for (Kind parent : kind.parents) {
            second.addAll(parent.rows.get(1));
            all.addAll(parent.rows.get(2));
        }
        List<Kind> third = new ArrayList<>();
        third.add(kind);
        for (int i = 0; i < all.size(); i++) {
            if (all.lastIndexOf(all.get(i)) == i) {
                third.add(all.get(i));
            }
        }
        kind.rows.add(first);
        kind.rows.add(new ArrayList<>(second));
        kind.rows.add(third);
        return true;
    }

    private void tellCall(Declaration d) {
        fresh(d.name);
        if (calls.size() == 24) {
            breaks(7, d.name);
        }
        int places = Integer.parseInt(d.number.text);
        if (places < 1 || places > 3) {
            breaks(4, d.number);
        }
        if (broken.isEmpty()) {
            Call call = new Call();
            call.name = d.name.text;
            call.places = places;
            call.join = d.join;
            call.way = d.way;
            calls.add(call);
        }
    }

    private void tellLayer(Declaration d) {
        fresh(d.name);
        if (layerNames.size() == 8) {
            breaks(7, d.name);
        }
        if (broken.isEmpty()) {
            layerNames.add(d.name.text);
        }
    }

    private void tellMethod(Declaration d) {
        Method m = new Method();
        m.call = callOf(d.name.text);
        if (m.call == null) {
            breaks(3, d.name);
        }
        if (methods.size() == 120) {
            breaks(7, d.name);
        }
        for (int i = 0; i < d.specs.size(); i++) {
            Spec spec = d.specs.get(i);
            if (m.names.contains(spec.name.text)) {
                breaks(2, spec.name);
            }
            if (m.call != null && i == m.call.places) {
                breaks(4, spec.name);
            }
            m.names.add(spec.name.text);
            Kind kind = spec.kindName == null ? kinds.get(0) : kindOf(spec.kindName.text);
            if (kind == null) {
                breaks(3, spec.kindName);
            }
            m.kinds.add(kind);
            m.equals.add(spec.equal);
        }
        if (m.call != null && d.specs.size() < m.call.places) {
            breaks(4, d.close);
        }
        m.role = d.role;
        if (d.layer != null) {
            m.layer = d.layer.text;
            if (!layerNames.contains(m.layer)) {
                breaks(3, d.layer);
            }
        }
        m.test = d.test;
        m.body = d.body;
        if (m.test != null) {
            checkTest(m);
        }
        checkE(m.body, m, new ArrayList<>(m.names));
        checkNodes(m.body);
        if (broken.isEmpty()) {
            for (Method other : methods) {
                if (!other.gone && other.call == m.call && other.kinds.equals(m.kinds) && other.equals.equals(m.equals)
                        && other.role.equals(m.role) && java.util.Objects.equals(other.layer, m.layer)
                        && other.test == null && m.test == null) {
                    breaks(2, d.name);
                    return;
                }
            }
            m.number = methods.size() + 1;
            methods.add(m);
        }
    }

    static List<Node> comparisonsOf(Node test) {
        List<Node> all = new ArrayList<>();
        if (test.op.equals("and") || test.op.equals("or") || test.op.equals("not")) {
            for (Node part : test.parts) {
                all.addAll(comparisonsOf(part));
            }
        } else {
            all.add(test);
        }
        return all;
    }

    private void checkTest(Method m) {
        List<Node> all = comparisonsOf(m.test);
        if (all.size() > 6) {
            breaks(7, all.get(6).at);
        }
        for (Node comparison : all) {
            for (Node term : comparison.parts) {
                if (term.op.equals("name") && !m.names.contains(term.name.text)) {
                    breaks(3, term.name);
                }
            }
            if (comparison.op.equals("is")) {
                comparison.meant = kindOf(comparison.name.text);
                if (comparison.meant == null) {
                    breaks(3, comparison.name);
                }
            }
        }
    }

    private void collect(Node node, List<Sign> places) {
        places.add(node.at);
        for (Node part : node.parts) {
            collect(part, places);
        }
    }

    private void checkNodes(Node body) {
        List<Sign> places = new ArrayList<>();
        collect(body, places);
        places.sort((a, b) -> Integer.compare(a.place, b.place));
        if (places.size() > 300) {
            breaks(7, places.get(300));
        }
    }

    private void checkE(Node node, Method m, List<String> names) {
        int wanted = -1;
        switch (node.op) {
            case "let":
                checkE(node.parts.get(0), m, names);
                names.add(node.name.text);
                checkE(node.parts.get(1), m, names);
                names.remove(names.size() - 1);
                return;
            case "try":
                checkE(node.parts.get(0), m, names);
                names.add(node.name.text);
                checkE(node.parts.get(1), m, names);
                names.remove(names.size() - 1);
                return;
            case "with":
            case "without":
                if (!layerNames.contains(node.name.text)) {
                    breaks(3, node.name);
                }
                break;
            case "is":
                node.meant = kindOf(node.name.text);
                if (node.meant == null) {
                    breaks(3, node.name);
                }
                break;
            case "next":
                if (m == null) {
                    breaks(3, node.at);
                } else if (m.call != null && node.hasArguments) {
                    wanted = m.call.places;
                }
                break;
            case "name":
                if (!node.hasArguments) {
                    if (!names.contains(node.name.text)) {
                        breaks(3, node.name);
                    }
                } else if (kindOf(node.name.text) != null) {
                    node.meant = kindOf(node.name.text);
                    wanted = 1;
                    if (kindOf(node.name.text).bare) {
                        breaks(6, node.name);
                    }
                } else if (callOf(node.name.text) != null) {
                    node.meant = callOf(node.name.text);
                    wanted = callOf(node.name.text).places;
                } else {
                    breaks(3, node.name);
                }
                break;
            default:
                break;
        }
        for (Node part : node.parts) {
            checkE(part, m, names);
        }
        if (wanted >= 0 && node.parts.size() > wanted) {
            breaks(4, node.firstSigns.get(wanted));
        }
        if (wanted >= 0 && node.parts.size() < wanted) {
            breaks(4, node.close);
        }
    }

    private int verdict() {
        int[] first = null;
        for (int[] one : broken) {
            if (first == null || one[0] < first[0] || one[0] == first[0] && one[1] < first[1]) {
                first = one;
            }
        }
        reason = first == null ? 0 : first[1];
        return first == null ? -1 : first[0];
    }

    // ------------------------------------------------------------------ the face

    private final StringBuilder tape = new StringBuilder();
    private int reason;
    private int choosing;
    private int way;
    private int fuel = 10000;
    private Node program;
    private List<Integer> result = new ArrayList<>();

    NaiveHouse() {
        clear();
    }

    int feed(int a, int b, int c, int d, int e) {
        if (tape.length() > 8192 - 20) {
            throw new IndexOutOfBoundsException();
        }
        for (int four : new int[] {a, b, c, d, e}) {
            for (int i = 3; i >= 0; i--) {
                tape.append((char) (four >> 8 * i & 255));
            }
        }
        return tape.length();
    }

    int end(int n) {
        if (n < 0 || n > tape.length()) {
            throw new IllegalArgumentException();
        }
        tape.setLength(n);
        return n;
    }

    int tell() {
        String text = tape.toString();
        tape.setLength(0);
        List<Declaration> all;
        try {
            signs = cut(text);
            pos = 0;
            all = text();
        } catch (Wrong wrong) {
            reason = 1;
            return wrong.place;
        }
        List<Kind> oldKinds = new ArrayList<>(kinds);
        List<Call> oldCalls = new ArrayList<>(calls);
        List<String> oldLayers = new ArrayList<>(layerNames);
        List<Method> oldMethods = new ArrayList<>(methods);
        for (Declaration d : all) {
            broken = new ArrayList<>();
            switch (d.what) {
                case "kind":
                    tellKind(d);
                    break;
                case "call":
                    tellCall(d);
                    break;
                case "layer":
                    tellLayer(d);
                    break;
                default:
                    tellMethod(d);
                    break;
            }
            if (!broken.isEmpty()) {
                kinds = oldKinds;
                calls = oldCalls;
                layerNames = oldLayers;
                methods = oldMethods;
                return verdict();
            }
        }
        settled.clear();
        reason = 0;
        return -1;
    }

    int program() {
        String text = tape.toString();
        tape.setLength(0);
        program = null;
        Node read;
        try {
            signs = cut(text);
            pos = 0;
            read = e(0);
            if (look().type != 'e') {
                throw new Wrong(look().place);
            }
        } catch (Wrong wrong) {
            reason = 1;
            return wrong.place;
        }
        broken = new ArrayList<>();
        checkE(read, null, new ArrayList<>());
        checkNodes(read);
        int wrong = verdict();
        if (wrong < 0) {
            program = read;
        }
        return wrong;
    }

    void clear() {
        kinds = new ArrayList<>();
        calls = new ArrayList<>();
        layerNames = new ArrayList<>();
        methods = new ArrayList<>();
        settled.clear();
        program = null;
        for (String name : new String[] {"Any", "Int", "Fault"}) {
            Kind kind = new Kind();
            kind.name = name;
            kind.number = kinds.size();
            kind.bare = kinds.isEmpty();
            if (!kinds.isEmpty()) {
                kind.parents.add(kinds.get(0));
            }
            makeRows(kind);
            kinds.add(kind);
        }
    }

    boolean drop(int m) {
        if (m < 1 || m > methods.size()) {
            throw new IndexOutOfBoundsException();
        }
        boolean was = !methods.get(m - 1).gone;
        methods.get(m - 1).gone = true;
        return was;
    }

    int set(int what, int v) {
        int old;
        if (what == 0 && 0 <= v && v < 4) {
            old = choosing;
            choosing = v;
        } else if (what == 1 && 0 <= v && v < 3) {
            old = way;
            way = v;
        } else if (what == 2 && 1 <= v && v <= 100000) {
            old = fuel;
            fuel = v;
        } else {
            throw new IllegalArgumentException();
        }
        return old;
    }

    int count(int what) {
        int[] all = {kinds.size(), calls.size(), methods.size(), layerNames.size(), reason, 2 * result.size(), tape.length()};
        if (what < 0 || what >= all.length) {
            throw new IllegalArgumentException();
        }
        return all[what];
    }

    private boolean isKind(int k) {
        return k >= 0 && k < kinds.size();
    }

    boolean below(int a, int b) {
        if (!isKind(a) || !isKind(b)) {
            throw new IndexOutOfBoundsException();
        }
        return kinds.get(a).below(kinds.get(b));
    }

    int row(int k, int byWay, int i) {
        if (!isKind(k) || i < 0) {
            throw new IndexOutOfBoundsException();
        }
        if (byWay < 0 || byWay > 2) {
            throw new IllegalArgumentException();
        }
        List<Kind> all = kinds.get(k).rows.get(byWay);
        return i < all.size() ? all.get(i).number : -1;
    }

    private boolean isMethod(int m) {
        return m >= 1 && m <= methods.size() && !methods.get(m - 1).gone;
    }

    int nearer(int m, int n, int a, int b, int c) {
        if (!isMethod(m) || !isMethod(n)) {
            throw new IndexOutOfBoundsException();
        }
        Method one = methods.get(m - 1);
        Method other = methods.get(n - 1);
        int[] numbers = {a, b, c};
        List<Kind> at = new ArrayList<>();
        for (int i = 0; i < one.call.places; i++) {
            if (!isKind(numbers[i])) {
                throw new IndexOutOfBoundsException();
            }
            at.add(kinds.get(numbers[i]));
        }
        if (one.call != other.call || !fits(one, at) || !fits(other, at)) {
            throw new IllegalArgumentException();
        }
        return compare(one, other, at);
    }

    int call(int c, int what) {
        if (c < 0 || c >= calls.size()) {
            throw new IndexOutOfBoundsException();
        }
        if (what < 0 || what > 8) {
            throw new IllegalArgumentException();
        }
        Call call = calls.get(c);
        switch (what) {
            case 0:
                return methodsOf(call).size();
            case 1:
                return new HashSet<>(table(call).values()).size();
            case 2:
                return table(call).size();
            case 3:
                return pressed(call);
            case 4:
                return treeOf(call).size();
            case 5:
                return whole(call)[0];
            default:
                return whole(call)[what - 5];
        }
    }

    int run() {
        if (program == null) {
            throw new IllegalStateException();
        }
        steps = 0;
        looks = 0;
        depth = 0;
        shown = new ArrayList<>();
        ran = new ArrayList<>();
        layersOn = new ArrayList<>();
        value = null;
        try {
            value = eval(program, new ArrayList<>(), null);
            ended = 0;
        } catch (Failed failed) {
            value = failed.value;
            ended = 1;
        } catch (Over over) {
            ended = over.how;
        }
        return ended;
    }

    int told(int what) {
        int[] all = {ended, value == null ? -1 : value.kind.number, value == null ? 0 : value.number, steps,
            shown.size(), ran.size(), looks};
        if (what < 0 || what >= all.length) {
            throw new IllegalArgumentException();
        }
        return all[what];
    }

    int shown(int i) {
        if (i < 0 || i >= shown.size()) {
            throw new IndexOutOfBoundsException();
        }
        return shown.get(i);
    }

    int ran() {
        if (ended < 0) {
            throw new IllegalStateException();
        }
        result = new ArrayList<>(ran.subList(0, Math.min(512, ran.size())));
        return 2 * result.size();
    }

    long word(int i) {
        if (i < 0 || i >= 2 * result.size()) {
            throw new IndexOutOfBoundsException();
        }
        long all = 0;
        for (int at = i; at < i + 8; at++) {
            int two = at / 2 < result.size() ? result.get(at / 2) : 0;
            all = all * 256 + (at % 2 == 0 ? two / 256 : two % 256);
        }
        return all;
    }

    // ------------------------------------------------------------------ choosing

    private List<Method> methodsOf(Call call) {
        List<Method> all = new ArrayList<>();
        for (Method m : methods) {
            if (m.call == call && !m.gone) {
                all.add(m);
            }
        }
        return all;
    }

    private static boolean fits(Method m, List<Kind> at) {
        for (int i = 0; i < at.size(); i++) {
            if (!at.get(i).below(m.kinds.get(i))) {
                return false;
            }
        }
        return true;
    }

    private List<Method> listFor(Call call, List<Kind> at) {
        List<Method> all = new ArrayList<>();
        for (Method m : methodsOf(call)) {
            if (fits(m, at)) {
                all.add(m);
            }
        }
        return all;
    }

    private List<Kind> makeable() {
        List<Kind> all = new ArrayList<>();
        for (Kind kind : kinds) {
            if (!kind.bare) {
                all.add(kind);
            }
        }
        return all;
    }

    private List<List<Kind>> rowsOfKinds(int places) {
        List<List<Kind>> all = new ArrayList<>();
        all.add(new ArrayList<>());
        for (int p = 0; p < places; p++) {
            List<List<Kind>> longer = new ArrayList<>();
            for (List<Kind> row : all) {
                for (Kind kind : makeable()) {
                    List<Kind> more = new ArrayList<>(row);
                    more.add(kind);
                    longer.add(more);
                }
            }
            all = longer;
        }
        return all;
    }

    private Map<List<Kind>, List<Method>> table(Call call) {
        Map<List<Kind>, List<Method>> table = new LinkedHashMap<>();
        for (List<Kind> row : rowsOfKinds(call.places)) {
            table.put(row, listFor(call, row));
        }
        return table;
    }

    private int pressed(Call call) {
        Map<List<Kind>, List<Method>> table = table(call);
        int cells = 1;
        for (int p = 0; p < call.places; p++) {
            Set<Map<List<Kind>, List<Method>>> groups = new HashSet<>();
            for (Kind kind : makeable()) {
                Map<List<Kind>, List<Method>> rest = new HashMap<>();
                for (Map.Entry<List<Kind>, List<Method>> cell : table.entrySet()) {
                    if (cell.getKey().get(p) == kind) {
                        List<Kind> others = new ArrayList<>(cell.getKey());
                        others.remove(p);
                        rest.put(others, cell.getValue());
                    }
                }
                groups.add(rest);
            }
            cells *= groups.size();
        }
        return cells;
    }

    /** A tree's node: what each kind leads to, a node or a list. */
    static final class Fork {
        int place;
        Map<Kind, Object> leads = new LinkedHashMap<>();
    }

    static final class Tree {
        Object root;
        int size;
        int size() {
            return size;
        }
    }

    private Tree treeOf(Call call) {
        int[][] orders = call.places == 1 ? new int[][] {{0}} : call.places == 2 ? new int[][] {{0, 1}, {1, 0}}
            : new int[][] {{0, 1, 2}, {0, 2, 1}, {1, 0, 2}, {1, 2, 0}, {2, 0, 1}, {2, 1, 0}};
        Tree best = null;
        for (int[] order : orders) {
            Tree tree = new Tree();
            Map<List<Object>, Fork> forks = new HashMap<>();
            tree.root = grow(call, order, 0, new Kind[call.places], forks);
            tree.size = forks.size();
            if (best == null || tree.size < best.size) {
                best = tree;
            }
        }
        return best;
    }

    private Object grow(Call call, int[] order, int asked, Kind[] known, Map<List<Object>, Fork> forks) {
        if (asked == order.length) {
            return listFor(call, Arrays.asList(known));
        }
        Fork fork = new Fork();
        fork.place = order[asked];
        List<Object> leads = new ArrayList<>();
        for (Kind kind : makeable()) {
            known[order[asked]] = kind;
            Object next = grow(call, order, asked + 1, known.clone(), forks);
            fork.leads.put(kind, next);
            leads.add(next);
        }
        if (new HashSet<>(leads).size() == 1) {
            return leads.get(0);
        }
        leads.add(order[asked]);
        if (!forks.containsKey(leads)) {
            forks.put(leads, fork);
        }
        return forks.get(leads);
    }

    private final Map<Call, Tree> trees = new HashMap<>();
    private final Map<Call, List<Object>> treeWorlds = new HashMap<>();

    private int looksFor(Call call, List<Kind> at) {
        switch (choosing) {
            case 0:
                return methodsOf(call).size();
            case 1:
                return 1;
            case 2:
                return at.size() + 1;
            default:
                List<Object> world = new ArrayList<>(methodsOf(call));
                world.addAll(kinds);
                if (!world.equals(treeWorlds.get(call))) {
                    treeWorlds.put(call, world);
                    trees.put(call, treeOf(call));
                }
                Object here = trees.get(call).root;
                int all = 1;
                while (here instanceof Fork) {
                    all++;
                    Fork fork = (Fork) here;
                    here = fork.leads.get(at.get(fork.place));
                }
                return all;
        }
    }

    // ------------------------------------------------------------------ nearer and whole, by trying numbers out

    private static boolean takes(Method m, List<Kind> at, long[] numbers) {
        for (int p = 0; p < at.size(); p++) {
            if (m.equals.get(p) != null && m.equals.get(p) != numbers[p]) {
                return false;
            }
        }
        return m.test == null || holds(m.test, m, at, numbers);
    }

    private static boolean holds(Node test, Method m, List<Kind> at, long[] numbers) {
        switch (test.op) {
            case "and":
                return holds(test.parts.get(0), m, at, numbers) && holds(test.parts.get(1), m, at, numbers);
            case "or":
                return holds(test.parts.get(0), m, at, numbers) || holds(test.parts.get(1), m, at, numbers);
            case "not":
                return !holds(test.parts.get(0), m, at, numbers);
            case "is":
                return at.get(m.names.indexOf(test.parts.get(0).name.text)).below((Kind) test.meant);
            case "<":
                return term(test.parts.get(0), m, numbers) < term(test.parts.get(1), m, numbers);
            case "<=":
                return term(test.parts.get(0), m, numbers) <= term(test.parts.get(1), m, numbers);
            default:
                return term(test.parts.get(0), m, numbers) == term(test.parts.get(1), m, numbers);
        }
    }

    private static long term(Node term, Method m, long[] numbers) {
        return term.number + (term.op.equals("name") ? numbers[m.names.indexOf(term.name.text)] : 0);
    }

    /**
     * Points enough to meet every way in which numbers can be taken by these methods. If some numbers do what they do,
     * make them as great as can be without a change of any comparison: then each is the greatest int, or held by a
     * comparison with a number, or by one with another argument; so the first of the arguments (in some order) is at one
     * of its own edges, the next at one of its own or of those that the ones before it set, and so on.
     */
    private static List<long[]> pointsFor(List<Method> methods, int places) {
        List<TreeSet<Long>> edges = new ArrayList<>();
        List<List<TreeSet<Long>>> apart = new ArrayList<>();
        for (int p = 0; p < places; p++) {
            edges.add(new TreeSet<>(Arrays.asList((long) Integer.MAX_VALUE, (long) Integer.MIN_VALUE)));
            apart.add(new ArrayList<>());
            for (int q = 0; q < places; q++) {
                apart.get(p).add(new TreeSet<>());
            }
        }
        for (Method m : methods) {
            for (int p = 0; p < places; p++) {
                if (m.equals.get(p) != null) {
                    addAround(edges.get(p), m.equals.get(p));
                }
            }
            for (Node comparison : m.test == null ? new ArrayList<Node>() : comparisonsOf(m.test)) {
                if (!comparison.op.equals("is")) {
                    Node left = comparison.parts.get(0);
                    Node right = comparison.parts.get(1);
                    int one = left.op.equals("name") ? m.names.indexOf(left.name.text) : -1;
                    int other = right.op.equals("name") ? m.names.indexOf(right.name.text) : -1;
                    long more = (long) right.number - left.number;
                    if (one >= 0 && other >= 0) {
                        addAround(apart.get(one).get(other), more);
                        addAround(apart.get(other).get(one), -more);
                    } else if (one >= 0) {
                        addAround(edges.get(one), more);
                    } else if (other >= 0) {
                        addAround(edges.get(other), -more);
                    }
                }
            }
        }
        List<long[]> all = new ArrayList<>();
        addPoints(edges, apart, new ArrayList<>(), new long[places], all);
        return all;
    }

    private static void addAround(Set<Long> some, long number) {
        some.add(number - 1);
        some.add(number);
        some.add(number + 1);
    }

    private static void addPoints(List<TreeSet<Long>> edges, List<List<TreeSet<Long>>> apart, List<Integer> done, long[] point,
            List<long[]> all) {
        if (done.size() == point.length) {
            all.add(point.clone());
            return;
        }
        for (int p = 0; p < point.length; p++) {
            if (!done.contains(p)) {
                Set<Long> candidates = new TreeSet<>(edges.get(p));
                for (int q : done) {
                    for (long more : apart.get(p).get(q)) {
                        candidates.add(point[q] + more);
                    }
                }
                done.add(p);
                for (long candidate : candidates) {
                    if (candidate == (int) candidate) {
                        point[p] = candidate;
                        addPoints(edges, apart, done, point, all);
                    }
                }
                done.remove(done.size() - 1);
            }
        }
    }

    private final Map<List<Object>, Integer> settled = new HashMap<>();

    private int asksMore(Method m, Method n, List<Kind> at) {
        if (m.asked() + n.asked() == 0) {
            return 0;
        }
        List<Object> key = new ArrayList<>(at);
        key.add(m);
        key.add(n);
        Integer known = settled.get(key);
        if (known != null) {
            return known;
        }
        boolean mAlone = false;
        boolean nAlone = false;
        for (long[] point : pointsFor(Arrays.asList(m, n), at.size())) {
            boolean one = takes(m, at, point);
            boolean other = takes(n, at, point);
            mAlone |= one && !other;
            nAlone |= other && !one;
            if (mAlone && nAlone) {
                break;
            }
        }
        int answer = !mAlone && nAlone ? -1 : mAlone && !nAlone ? 1 : 0;
        settled.put(key, answer);
        return answer;
    }

    private int compare(Method m, Method n, List<Kind> at) {
        if (m.kinds.equals(n.kinds)) {
            return asksMore(m, n, at);
        }
        int sumOfM = 0;
        int sumOfN = 0;
        boolean mBelow = true;
        boolean nBelow = true;
        for (int p = 0; p < at.size(); p++) {
            Kind one = m.kinds.get(p);
            Kind other = n.kinds.get(p);
            List<Kind> row = at.get(p).rows.get(way);
            if (m.call.way.equals("left") && one != other) {
                return row.indexOf(one) < row.indexOf(other) ? -1 : 1;
            }
            sumOfM += row.indexOf(one);
            sumOfN += row.indexOf(other);
            mBelow &= one.below(other);
            nBelow &= other.below(one);
        }
        if (m.call.way.equals("each")) {
            return mBelow ? -1 : nBelow ? 1 : 0;
        }
        return Integer.compare(sumOfM, sumOfN);
    }

    private int[] whole(Call call) {
        int asking = 0;
        for (List<Kind> row : rowsOfKinds(call.places)) {
            List<Method> plain = new ArrayList<>();
            int asked = 0;
            for (Method m : listFor(call, row)) {
                if (m.role.equals("plain") && m.layer == null) {
                    plain.add(m);
                    asked += m.asked();
                }
            }
            if (asked > 0) {
                asking++;
                if (asked > 8 || asking > 200) {
                    return new int[] {-1, -1, -1, -1};
                }
            }
            int found = wholeRow(call, row, plain, asked);
            if (found != 0) {
                int[] answer = {found, -1, -1, -1};
                for (int p = 0; p < call.places; p++) {
                    answer[p + 1] = row.get(p).number;
                }
                return answer;
            }
        }
        return new int[] {0, -1, -1, -1};
    }

    private int wholeRow(Call call, List<Kind> row, List<Method> plain, int asked) {
        Set<List<Method>> sets = new HashSet<>();
        if (asked == 0) {
            sets.add(plain);
        } else {
            for (long[] point : pointsFor(plain, call.places)) {
                List<Method> applying = new ArrayList<>();
                for (Method m : plain) {
                    if (takes(m, row, point)) {
                        applying.add(m);
                    }
                }
                sets.add(applying);
            }
        }
        if (sets.contains(Collections.<Method>emptyList())) {
            return 1;
        }
        for (List<Method> applying : sets) {
            if (call.join.equals("best") && freeOf(applying, row).size() != 1) {
                return 2;
            }
        }
        return 0;
    }

    private List<Method> freeOf(List<Method> left, List<Kind> at) {
        List<Method> free = new ArrayList<>();
        for (Method m : left) {
            boolean none = true;
            for (Method n : left) {
                none &= n == m || compare(n, m, at) >= 0;
            }
            if (none) {
                free.add(m);
            }
        }
        return free;
    }

    // ------------------------------------------------------------------ running

    private int ended = -1;
    private Value value;
    private int steps;
    private int looks;
    private int depth;
    private List<Integer> shown = new ArrayList<>();
    private List<Integer> ran = new ArrayList<>();
    private List<String> layersOn = new ArrayList<>();

    static final class Bound {
        final String name;
        final Value value;
        Bound(String name, Value value) {
            this.name = name;
            this.value = value;
        }
    }

    static final class Row {
        List<Method> methods = new ArrayList<>();
        boolean several;
    }

    /** A method at work: what next in it does. */
    static final class Work {
        Method method;
        List<Value> arguments;
        Chosen chosen;
        int spot;
    }

    static final class Chosen {
        Call call;
        Map<String, Row> rows = new HashMap<>();
    }

    private Value intOf(int number) {
        return new Value(kinds.get(1), number);
    }

    private Failed fault(int number) {
        return new Failed(new Value(kinds.get(2), number));
    }

    private Value eval(Node node, List<Bound> bound, Work work) {
        if (steps == fuel) {
            throw new Over(4);
        }
        steps++;
        switch (node.op) {
            case "number":
                return intOf(node.number);
            case "#":
                return intOf(eval(node.parts.get(0), bound, work).number);
            case "let":
                return evalWith(node.parts.get(1), bound, node.name.text, eval(node.parts.get(0), bound, work), work);
            case "if":
                boolean isSo = eval(node.parts.get(0), bound, work).number != 0;
                return eval(node.parts.get(isSo ? 1 : 2), bound, work);
            case "with":
            case "without":
                return evalLayers(node, bound, work);
            case "try":
                List<String> layersBefore = layersOn;
                int depthBefore = depth;
                try {
                    return eval(node.parts.get(0), bound, work);
                } catch (Failed failed) {
                    layersOn = layersBefore;
                    depth = depthBefore;
                    return evalWith(node.parts.get(1), bound, node.name.text, failed.value, work);
                }
            case "fail":
                throw new Failed(eval(node.parts.get(0), bound, work));
            case "show":
                Value toShow = eval(node.parts.get(0), bound, work);
                if (shown.size() == 512) {
                    throw new Over(5);
                }
                shown.add(toShow.number);
                return toShow;
            case "is":
                return intOf(eval(node.parts.get(0), bound, work).kind.below((Kind) node.meant) ? 1 : 0);
            case "name":
                return evalName(node, bound, work);
            case "next":
                List<Value> arguments = work.arguments;
                if (node.hasArguments) {
                    arguments = evalAll(node.parts, bound, work);
                }
                return next(work, arguments);
            default:
                int left = eval(node.parts.get(0), bound, work).number;
                int right = eval(node.parts.get(1), bound, work).number;
                return intOf(reckon(node.op, left, right));
        }
    }

    private int reckon(String op, int left, int right) {
        switch (op) {
            case "+":
                return left + right;
            case "-":
                return left - right;
            case "*":
                return left * right;
            case "<":
                return left < right ? 1 : 0;
            case "<=":
                return left <= right ? 1 : 0;
            case "==":
                return left == right ? 1 : 0;
            default:
                if (right == 0) {
                    throw fault(3);
                }
                return (int) ((long) left / right);
        }
    }

    private Value evalWith(Node node, List<Bound> bound, String name, Value itsValue, Work work) {
        List<Bound> more = new ArrayList<>(bound);
        more.add(new Bound(name, itsValue));
        return eval(node, more, work);
    }

    private Value evalLayers(Node node, List<Bound> bound, Work work) {
        List<String> before = layersOn;
        layersOn = new ArrayList<>(before);
        layersOn.remove(node.name.text);
        if (node.op.equals("with")) {
            layersOn.add(node.name.text);
        }
        Value answer = eval(node.parts.get(0), bound, work);
        layersOn = before;
        return answer;
    }

    private Value evalName(Node node, List<Bound> bound, Work work) {
        if (!node.hasArguments) {
            for (int i = bound.size() - 1; i >= 0; i--) {
                if (bound.get(i).name.equals(node.name.text)) {
                    return bound.get(i).value;
                }
            }
            throw new AssertionError();
        }
        List<Value> arguments = evalAll(node.parts, bound, work);
        if (node.meant instanceof Kind) {
            return new Value((Kind) node.meant, arguments.get(0).number);
        }
        return callMethods((Call) node.meant, arguments);
    }

    private List<Value> evalAll(List<Node> nodes, List<Bound> bound, Work work) {
        List<Value> all = new ArrayList<>();
        for (Node node : nodes) {
            all.add(eval(node, bound, work));
        }
        return all;
    }

    private Value callMethods(Call call, List<Value> arguments) {
        List<Kind> at = new ArrayList<>();
        long[] numbers = new long[arguments.size()];
        for (int i = 0; i < numbers.length; i++) {
            at.add(arguments.get(i).kind);
            numbers[i] = arguments.get(i).number;
        }
        looks += looksFor(call, at);
        List<Method> applying = new ArrayList<>();
        for (Method m : listFor(call, at)) {
            if ((m.layer == null || layersOn.contains(m.layer)) && takes(m, at, numbers)) {
                applying.add(m);
            }
        }
        Chosen chosen = new Chosen();
        chosen.call = call;
        boolean plain = false;
        for (Method m : applying) {
            plain |= m.role.equals("plain");
        }
        if (!plain) {
            throw fault(1);
        }
        for (String role : new String[] {"plain", "around", "before", "behind"}) {
            chosen.rows.put(role, lay(role, call, applying, at));
        }
        Row around = chosen.rows.get("around");
        if (around.methods.isEmpty()) {
            if (around.several) {
                throw fault(2);
            }
            return inside(chosen, arguments);
        }
        return begin(around.methods.get(0), arguments, chosen, 0);
    }

    private Row lay(String role, Call call, List<Method> applying, List<Kind> at) {
        Row row = new Row();
        List<String> layers = new ArrayList<>(layersOn);
        Collections.reverse(layers);
        layers.add(null);
        boolean strict = role.equals("around") || role.equals("plain") && call.join.equals("best");
        for (String layer : layers) {
            List<Method> left = new ArrayList<>();
            for (Method m : applying) {
                if (m.role.equals(role) && java.util.Objects.equals(m.layer, layer)) {
                    left.add(m);
                }
            }
            while (!left.isEmpty()) {
                List<Method> free = freeOf(left, at);
                if (free.size() != 1 && strict) {
                    row.several = true;
                    return row;
                }
                Method next = free.isEmpty() ? left.get(0) : free.get(0);
                row.methods.add(next);
                left.remove(next);
            }
        }
        return row;
    }

    private Value begin(Method m, List<Value> arguments, Chosen chosen, int spot) {
        if (depth == 24) {
            throw fault(4);
        }
        depth++;
        ran.add(m.number);
        Work work = new Work();
        work.method = m;
        work.arguments = arguments;
        work.chosen = chosen;
        work.spot = spot;
        List<Bound> bound = new ArrayList<>();
        for (int i = 0; i < arguments.size(); i++) {
            bound.add(new Bound(m.names.get(i), arguments.get(i)));
        }
        Value answer = eval(m.body, bound, work);
        depth--;
        return answer;
    }

    private Value next(Work work, List<Value> arguments) {
        String role = work.method.role;
        boolean isBest = work.chosen.call.join.equals("best");
        if (role.equals("before") || role.equals("behind") || role.equals("plain") && !isBest) {
            throw fault(1);
        }
        Row row = work.chosen.rows.get(role);
        int spot = work.spot + 1;
        if (spot < row.methods.size()) {
            return begin(row.methods.get(spot), arguments, work.chosen, spot);
        }
        if (row.several) {
            throw fault(2);
        }
        if (role.equals("plain")) {
            throw fault(1);
        }
        return inside(work.chosen, arguments);
    }

    private Value inside(Chosen chosen, List<Value> arguments) {
        Row plain = chosen.rows.get("plain");
        if (plain.methods.isEmpty()) {
            throw fault(2);
        }
        for (Method m : chosen.rows.get("before").methods) {
            begin(m, arguments, chosen, 0);
        }
        Value answer = joined(chosen, arguments, plain.methods);
        List<Method> behind = new ArrayList<>(chosen.rows.get("behind").methods);
        Collections.reverse(behind);
        for (Method m : behind) {
            begin(m, arguments, chosen, 0);
        }
        return answer;
    }

    private Value joined(Chosen chosen, List<Value> arguments, List<Method> plain) {
        switch (chosen.call.join) {
            case "best":
                return begin(plain.get(0), arguments, chosen, 0);
            case "sum":
                int sum = 0;
                for (Method m : plain) {
                    sum += begin(m, arguments, chosen, 0).number;
                }
                return intOf(sum);
            case "least":
                int least = Integer.MAX_VALUE;
                for (Method m : plain) {
                    least = Math.min(least, begin(m, arguments, chosen, 0).number);
                }
                return intOf(least);
            case "all":
                for (Method m : plain) {
                    if (begin(m, arguments, chosen, 0).number == 0) {
                        return intOf(0);
                    }
                }
                return intOf(1);
            default:
                for (Method m : plain) {
                    if (begin(m, arguments, chosen, 0).number != 0) {
                        return intOf(1);
                    }
                }
                return intOf(0);
        }
    }
}
