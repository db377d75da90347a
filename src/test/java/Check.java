/** A house with texts for bytes, and a count of what was not as due. */
final class Check {
    private DispatchHouse house = new DispatchHouse();
    private String sentence = "";
    private int sentences;
    private int wrong;
    private int asked;

    /** Something that may throw. */
    interface Ask {
        long get();
    }

    DispatchHouse house() {
        return house;
    }

    DispatchHouse anew() {
        house = new DispatchHouse();
        return house;
    }

    /** Begins the test of a sentence of the document, with a new house. */
    DispatchHouse sentence(String words) {
        sentence = words + " | ";
        sentences++;
        return anew();
    }

    void due(String what, long got, long want) {
        asked++;
        if (got != want) {
            wrong++;
            System.out.println(sentence + what + " answered " + got + ", due is " + want);
        }
    }

    void due(String what, boolean got, boolean want) {
        due(what, got ? 1 : 0, want ? 1 : 0);
    }

    void throwing(String what, Class<?> want, Ask ask) {
        asked++;
        Class<?> got = null;
        try {
            ask.get();
        } catch (RuntimeException e) {
            got = e.getClass();
        }
        if (got != want) {
            wrong++;
            System.out.println(sentence + what + " threw " + got + ", due is " + want);
        }
    }

    /** A call that throws and changes nothing that can be asked for. */
    void refused(String what, Class<?> want, Ask ask) {
        String before = state();
        throwing(what, want, ask);
        due(what + " changed nothing", before.equals(state()), true);
    }

    /** All that can be asked of a house without running or reading anything. */
    private String state() {
        StringBuilder all = new StringBuilder();
        for (int what = 0; what < 7; what++) {
            all.append(house.count(what)).append(' ').append(house.told(what)).append(' ');
        }
        for (int what = 0; what < 3; what++) {
            int old = house.set(what, 1);
            house.set(what, old);
            all.append(old).append(' ');
        }
        for (int i = 0; i < house.told(4); i++) {
            all.append(house.shown(i)).append(' ');
        }
        for (int i = 0; i < house.count(5); i += 8) {
            all.append(house.word(i)).append(' ');
        }
        for (int c = 0; c < house.count(1); c++) {
            for (int what = 0; what < 9; what++) {
                all.append(house.call(c, what)).append(' ');
            }
        }
        return all.toString();
    }

    static String times(int n, String part) {
        return part.repeat(Math.max(0, n));
    }

    void feed(String text) {
        house.end(0);
        for (int i = 0; i < text.length(); i += 20) {
            int[] five = new int[5];
            for (int j = 0; j < 20; j++) {
                five[j / 4] = five[j / 4] << 8 | (i + j < text.length() ? text.charAt(i + j) : 0);
            }
            house.feed(five[0], five[1], five[2], five[3], five[4]);
        }
        house.end(text.length());
    }

    /** Tells a text that should be right. */
    void tell(String text) {
        feed(text);
        due("tell of " + text, house.tell(), -1);
        due("REASON of " + text, house.count(4), 0);
    }

    /** Tells a text that should be wrong where ^ stands in it. */
    void tellWrong(int reason, String marked) {
        String text = marked.replace("^", "");
        feed(text);
        due("tell of " + marked, house.tell(), marked.indexOf('^'));
        due("REASON of " + marked, house.count(4), reason);
    }

    void program(String text) {
        feed(text);
        due("program " + text, house.program(), -1);
        due("REASON of " + text, house.count(4), 0);
    }

    void programWrong(int reason, String marked) {
        String text = marked.replace("^", "");
        feed(text);
        due("program " + marked, house.program(), marked.indexOf('^'));
        due("REASON of " + marked, house.count(4), reason);
    }

    /** Runs a program that should end so, with such a value. */
    void run(String text, int how, int kind, int number) {
        program(text);
        due("run of " + text, house.run(), how);
        due("told 0 of " + text, house.told(0), how);
        due("kind of " + text, house.told(1), kind);
        due("number of " + text, house.told(2), number);
    }

    void gives(String text, int number) {
        run(text, 0, 1, number);
    }

    void faults(String text, int number) {
        run(text, 1, 2, number);
    }

    void steps(int want) {
        due("STEPS", house.told(3), want);
    }

    void showed(int... want) {
        due("numbers shown", house.told(4), want.length);
        for (int i = 0; i < want.length && i < house.told(4); i++) {
            due("shown " + i, house.shown(i), want[i]);
        }
    }

    void ran(int... want) {
        due("methods that began", house.told(5), want.length);
        due("length of RAN", house.ran(), 2 * want.length);
        for (int i = 0; i < want.length && 2 * i < house.count(5); i++) {
            due("method " + i + " that ran", house.word(2 * i) >>> 48, want[i]);
        }
    }

    void done() {
        String of = sentences == 0 ? "" : sentences + " sentences, ";
        System.out.println(of + asked + " answers, " + wrong + " not as due");
        if (wrong != 0) {
            System.exit(1);
        }
    }
}
