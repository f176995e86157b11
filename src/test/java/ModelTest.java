import java.util.List;
import java.util.Random;

/** The program against the model: all short rows, random runs of calls, and random texts. */
public final class ModelTest {
    private static final String SIGNS = "abcd0123456789()[],";

    private ModelTest() {
    }

    public static void main(String[] args) {
        shortRows();
        longerRows(new Random(9));
        for (int seed = 0; seed < 150; seed++) {
            run(new Random(seed), seed, 400);
        }
        texts(new Random(7));
        fullRows(new Random(8));
        Due.end();
    }

    /** All rows of up to 5 letters of three kinds: each description is listed. */
    private static void shortRows() {
        int[][] settings = {{2, 3, 3, 2, 3}, {1, 0, 0, 6, 4}, {2, 0, 1, 2, 2}, {1, 0, 1, 1, 4}, {9, 1, 20, 0, 4},
            {3, 2, 1, 3, 1}, {1, 1, 1, 6, 4}, {2, 1, 1, 2, 0}};
        for (int length = 1; length <= 5; length++) {
            int rows = (int) Math.pow(3, length);
            for (int code = 0; code < rows; code++) {
                StringBuilder letters = new StringBuilder();
                for (int rest = code, many = 0; many < length; many++, rest /= 3) {
                    letters.append((char) ('a' + rest % 3));
                }
                shortRow(letters.toString(), settings[code % settings.length]);
            }
        }
        for (String letters : List.of("aaaaaaaa", "abababab", "aabaabaa", "abaababa", "aaabaaab", "abcabcab")) {
            for (int[] setting : settings) {
                shortRow(letters, setting);
            }
        }
    }

    /** Rows of 6 to 10 letters, mostly of a word again and again, by random settings: each description is listed. */
    private static void longerRows(Random random) {
        for (int many = 0; many < 1000; many++) {
            int[] settings = {1 + random.nextInt(3), random.nextInt(4), random.nextInt(4), random.nextInt(7), random.nextInt(5)};
            shortRow(wordy(random, 6 + random.nextInt(5), 4), settings);
        }
    }

    private static String wordy(Random random, int length, int longestWord) {
        String word = "";
        for (int many = 1 + random.nextInt(longestWord); many > 0; many--) {
            word += (char) ('a' + random.nextInt(3));
        }
        StringBuilder letters = new StringBuilder();
        while (letters.length() < length) {
            letters.append(random.nextInt(6) == 0 ? "" + (char) ('a' + random.nextInt(4)) : word);
        }
        return letters.substring(0, length);
    }

    private static void shortRow(String letters, int[] settings) {
        RepeatNests x = Due.row(letters, settings);
        List<List<Model.Item>> all = Model.all(letters, settings[4], settings[3]);
        List<Model.Item> best = all.get(0);
        for (List<Model.Item> description : all) {
            Due.holds("the model describes " + letters, Model.letters(description).equals(letters));
            best = Model.compare(description, best, settings) < 0 ? description : best;
        }
        Due.is("descriptions of " + letters, x.descriptions(0, letters.length()), all.size());
        Due.same("text of " + letters, Due.textOf(x), Model.text(best));
        Due.is("price of " + letters, x.cheapest(0, letters.length(), 0), Model.cost(best, settings));
    }

    private static void run(Random random, int seed, int calls) {
        RepeatNests x = new RepeatNests();
        Model model = new Model();
        for (int call = 0; call < calls; call++) {
            step("run " + seed + ", call " + call + ": ", random, x, model);
            if (Due.anyWrong()) {
                return;
            }
        }
        Due.same("row of run " + seed, Due.rowOf(x), model.row);
    }

    private static int place(Random random, Model model) {
        return random.nextInt(model.row.length() + 3) - 1;
    }

    private static int letter(Random random) {
        return random.nextInt(30) == 0 ? random.nextInt(8) - 2 : random.nextInt(10) < 8 ? random.nextInt(2) : random.nextInt(4);
    }

    private static void step(String where, Random random, RepeatNests x, Model model) {
        int from = place(random, model);
        int to = random.nextBoolean() ? from + random.nextInt(13) : place(random, model);
        int letter = letter(random);
        switch (random.nextInt(25)) {
            case 0, 1, 2 -> Due.is(where + "append(" + letter + ")", x.append(letter), model.append(letter));
            case 3 -> {
                int many = random.nextInt(6) == 0 ? random.nextInt(30) - 2 : 1 + random.nextInt(3);
                Due.is(where + "cut(" + many + ")", x.cut(many), model.cut(many));
            }
            case 4 -> Due.is(where + "change(" + from + ", " + letter + ")", x.change(from, letter), model.change(from, letter));
            case 5 -> Due.is(where + "turn()", x.turn(), model.turn());
            case 6 -> set(where, random, x, model);
            case 7 -> Due.is(where + "letterAt(" + from + ")", x.letterAt(from), model.letterAt(from));
            case 8 -> {
                int period = random.nextInt(27) - 1;
                Due.is(where + "unlike(" + from + ", " + to + ", " + period + ")", x.unlike(from, to, period),
                    model.unlike(from, to, period));
            }
            case 9 -> Due.is(where + "period(" + from + ", " + to + ")", x.period(from, to), model.period(from, to));
            case 10 -> {
                int index = random.nextInt(8) - 1;
                int what = random.nextInt(5) - 1;
                Due.is(where + "runOf(" + index + ", " + what + ")", x.runOf(index, what), model.runOf(index, what));
            }
            case 11, 12 -> {
                int what = random.nextInt(10) - 1;
                Due.is(where + "cheapest(" + from + ", " + to + ", " + what + ") of " + model.whole(),
                    x.cheapest(from, to, what), model.cheapest(from, to, what));
            }
            case 13 -> {
                int index = random.nextInt(40) - 1;
                Due.is(where + "textAt(" + index + ")", x.textAt(index), model.textAt(index));
            }
            case 14 -> Due.is(where + "descriptions(" + from + ", " + to + ")", x.descriptions(from, to), model.descriptions(from, to));
            case 15 -> Due.is(where + "would(" + from + ", " + letter + ")", x.would(from, letter), model.would(from, letter));
            case 16 -> {
                int what = random.nextInt(4) - (random.nextInt(10) == 0 ? 1 : 0);
                if (model.row.length() < 16 || random.nextInt(10) == 0) {
                    Due.is(where + "bestChange(" + what + ") of " + model.whole(), x.bestChange(what), model.bestChange(what));
                }
            }
            case 17 -> typeSome(where, random, x, model);
            case 18 -> Due.is(where + "clearText()", x.clearText(), model.clearText());
            case 19 -> {
                int what = random.nextInt(4) - 1;
                Due.is(where + "fault(" + what + ") of " + model.text, x.fault(what), model.fault(what));
            }
            case 20 -> {
                int what = random.nextBoolean() ? random.nextInt(8) - 1 : 98 + random.nextInt(28);
                Due.is(where + "told(" + what + ") of " + model.text, x.told(what), model.told(what));
            }
            case 21 -> Due.is(where + "adopt()", x.adopt(), model.adopt());
            case 22, 23 -> {
                int what = random.nextBoolean() ? random.nextInt(6) - 1 : 18 + random.nextInt(9);
                Due.is(where + "count(" + what + ")", x.count(what), model.count(what));
            }
            default -> Due.is(where + "undo()", x.undo(), model.undo());
        }
    }

    private static void set(String where, Random random, RepeatNests x, Model model) {
        int what = random.nextInt(20) == 0 ? random.nextInt(9) - 2 : random.nextInt(5);
        int value = random.nextInt(4) == 0 ? random.nextInt(24) - 1 : random.nextInt(5);
        Due.is(where + "set(" + what + ", " + value + ")", x.set(what, value), model.set(what, value));
    }

    private static void typeSome(String where, Random random, RepeatNests x, Model model) {
        String text = random.nextInt(8) == 0 ? "" + (char) (30 + random.nextInt(99)) : typable(random, 3);
        if (random.nextBoolean()) {
            Due.is(where + "clearText()", x.clearText(), model.clearText());
        }
        for (char sign : text.toCharArray()) {
            Due.is(where + "type(" + (int) sign + ")", x.type(sign), model.type(sign));
        }
    }

    /** A text that is mostly without a fault. */
    private static String typable(Random random, int depth) {
        StringBuilder text = new StringBuilder();
        for (int many = 1 + random.nextInt(3); many > 0; many--) {
            if (depth == 0 || random.nextInt(3) == 0) {
                text.append((char) ('a' + random.nextInt(4)));
            } else {
                int times = random.nextInt(12) == 0 ? random.nextInt(30) : 2 + random.nextInt(2);
                text.append(times).append('(').append(typable(random, depth - 1)).append(')');
                int place = 0;
                for (int corrections = random.nextInt(3); corrections > 0; corrections--) {
                    place += 1 + random.nextInt(4);
                    text.append('[').append(place).append(',').append((char) ('a' + random.nextInt(4))).append(']');
                }
            }
        }
        return text.toString();
    }

    /** Texts with a character or some changed, taken away or put in. */
    private static void texts(Random random) {
        for (int many = 0; many < 60000; many++) {
            StringBuilder text = new StringBuilder(typable(random, 1 + random.nextInt(3)));
            for (int edits = random.nextInt(3); edits > 0; edits--) {
                int place = random.nextInt(text.length() + 1);
                char sign = SIGNS.charAt(random.nextInt(SIGNS.length()));
                if (place == text.length() || random.nextInt(3) == 0) {
                    text.insert(place, sign);
                } else if (random.nextBoolean()) {
                    text.setCharAt(place, sign);
                } else if (text.length() > 1) {
                    text.deleteCharAt(place);
                }
            }
            text(text.length() > 60 ? text.substring(0, 60) : text.toString());
        }
    }

    private static void text(String text) {
        RepeatNests x = Due.typed(text);
        Model model = new Model();
        model.text = text;
        Due.same("fault of " + text, Due.faultOf(x), model.fault(0) + " " + model.fault(1));
        for (int what = 0; what <= 4; what++) {
            Due.is("told(" + what + ") of " + text, x.told(what), model.told(what));
        }
        ModelText read = new ModelText(text);
        Due.same("letters told of " + text, Due.toldOf(x), read.fault == null ? Model.letters(read.items()) : "");
    }

    /** Rows of 24 letters by random settings: the whole text, every measure, and a text that is read again. */
    private static void fullRows(Random random) {
        for (int many = 0; many < 120; many++) {
            String letters = wordy(random, 24, 6);
            int[] settings = {1 + random.nextInt(4), random.nextInt(4), random.nextInt(4), random.nextInt(7), random.nextInt(5)};
            fullRow(letters, settings);
        }
    }

    private static void fullRow(String letters, int[] settings) {
        RepeatNests x = Due.row(letters, settings);
        Model model = new Model();
        model.row = letters;
        model.settings = settings;
        String text = Model.text(model.best(letters, settings[4]));
        Due.same("text of " + letters, Due.textOf(x), text);
        for (int what = 0; what <= 7; what++) {
            Due.is("cheapest(0, 24, " + what + ") of " + letters, x.cheapest(0, 24, what), model.cheapest(0, 24, what));
        }
        Due.is("descriptions of " + letters, x.descriptions(0, 24), model.descriptions(0, 24));
        if (text.length() <= 60) {
            Due.type(x, text);
            Due.is("the text read again describes the row: " + text, x.told(5), 1);
            Due.is("and costs as much: " + text, x.told(0), x.cheapest(0, 24, 0));
        }
    }
}
