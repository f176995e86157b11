/** What the tests share: answers against those that are due, and rows and texts that are told as strings. */
final class Due {
    static final int INVALID = RepeatNests.INVALID_ARGUMENT;
    static final int IMPOSSIBLE = RepeatNests.NOT_POSSIBLE;
    static final int LIMIT = RepeatNests.LIMIT_REACHED;
    static final int NONE = RepeatNests.NOT_FOUND;

    private static final int MOST_PRINTED = 40;
    private static int wrong = 0;
    private static int checked = 0;

    private Due() {
    }

    static void is(String call, long got, long want) {
        same(call, Long.toString(got), Long.toString(want));
    }

    static void same(String call, String got, String want) {
        checked++;
        if (!got.equals(want)) {
            wrong++;
            if (wrong <= MOST_PRINTED) {
                System.out.println(call + " answered " + got + ", due is " + want);
            }
        }
    }

    static void holds(String what, boolean holding) {
        same(what, Boolean.toString(holding), "true");
    }

    static boolean anyWrong() {
        return wrong != 0;
    }

    static void end() {
        System.out.println(checked + " answers, " + wrong + " not as due");
        if (wrong != 0 || checked == 0) {
            System.exit(1);
        }
    }

    static RepeatNests row(String letters) {
        RepeatNests x = new RepeatNests();
        append(x, letters);
        return x;
    }

    static RepeatNests row(String letters, int... settings) {
        RepeatNests x = row(letters);
        for (int what = 0; what < settings.length; what++) {
            is("set(" + what + ", " + settings[what] + ") for " + letters,
                x.set(what, settings[what]) >= 0 ? 1 : 0, 1);
        }
        return x;
    }

    static void append(RepeatNests x, String letters) {
        for (char letter : letters.toCharArray()) {
            x.append(letter - 'a');
        }
    }

    static RepeatNests typed(String text) {
        RepeatNests x = new RepeatNests();
        type(x, text);
        return x;
    }

    static void type(RepeatNests x, String text) {
        for (char sign : text.toCharArray()) {
            x.type(sign);
        }
    }

    /** The row, told by letterAt. */
    static String rowOf(RepeatNests x) {
        StringBuilder letters = new StringBuilder();
        for (int place = 0; x.letterAt(place) != NONE && place < 100; place++) {
            letters.append((char) ('a' + x.letterAt(place)));
        }
        return letters.toString();
    }

    /** The text of the cheapest description, told by textAt. */
    static String textOf(RepeatNests x) {
        StringBuilder text = new StringBuilder();
        for (int index = 0; x.textAt(index) != NONE && index < 1000; index++) {
            text.append((char) x.textAt(index));
        }
        return text.toString();
    }

    /** The letters that the typed text describes, told by told. */
    static String toldOf(RepeatNests x) {
        StringBuilder letters = new StringBuilder();
        for (int place = 0; place < 24 && x.told(100 + place) >= 0; place++) {
            letters.append((char) ('a' + x.told(100 + place)));
        }
        return letters.toString();
    }

    /** What the typed text tells but for the row and its letters: told of 0 to 4. */
    static String measuresOf(RepeatNests x) {
        StringBuilder measures = new StringBuilder();
        for (int what = 0; what <= 4; what++) {
            measures.append(what == 0 ? "" : " ").append(x.told(what));
        }
        return measures.toString();
    }

    /** The place and the letter of the best change, and what the row costs then. */
    static String bestChangeOf(RepeatNests x) {
        return x.bestChange(0) + " " + x.bestChange(1) + " " + x.bestChange(2);
    }

    /** The place and the reason of the fault of the typed text. */
    static String faultOf(RepeatNests x) {
        return x.fault(0) + " " + x.fault(1);
    }

    /** The runs, each as "first-behind:period". */
    static String runsOf(RepeatNests x) {
        StringBuilder runs = new StringBuilder();
        for (int index = 0; x.runOf(index, 0) >= 0; index++) {
            runs.append(index == 0 ? "" : " ").append(x.runOf(index, 0)).append('-').append(x.runOf(index, 1))
                .append(':').append(x.runOf(index, 2));
        }
        return runs.toString();
    }

    /** All that can be asked of the state, told as one string. */
    static String seen(RepeatNests x) {
        StringBuilder seen = new StringBuilder(rowOf(x));
        for (int what = 0; what < 25; what++) {
            seen.append(' ').append(x.count(what));
        }
        return seen.append(' ').append(faultOf(x)).append(' ').append(x.told(0)).append(' ').append(toldOf(x)).toString();
    }
}
