import java.math.BigInteger;
import java.util.ArrayDeque;
import java.util.ArrayList;
import java.util.Arrays;
import java.util.Deque;
import java.util.HashMap;
import java.util.List;
import java.util.Map;
import java.util.TreeMap;

/** What the document promises, said once more in a plain way: rows are strings, descriptions are objects. */
final class Model {
    private static final int[] LEAST = {1, 0, 0, 0, 0};
    private static final int[] MOST = {9, 20, 20, 6, 4};

    /** An item: a letter (block is null) or a repeat. */
    record Item(char letter, int times, List<Item> block, TreeMap<Integer, Character> corrections) {
        static Item of(char letter) {
            return new Item(letter, 1, null, new TreeMap<>());
        }

        boolean isLetter() {
            return block == null;
        }

        String letters() {
            if (isLetter()) {
                return String.valueOf(letter);
            }
            StringBuilder letters = new StringBuilder(Model.letters(block).repeat(times));
            corrections.forEach((place, other) -> letters.setCharAt(place, other));
            return letters.toString();
        }

        String text() {
            if (isLetter()) {
                return String.valueOf(letter);
            }
            StringBuilder text = new StringBuilder().append(times).append('(').append(Model.text(block)).append(')');
            corrections.forEach((place, other) -> text.append('[').append(place).append(',').append(other).append(']'));
            return text.toString();
        }

        int depth() {
            return isLetter() ? 0 : 1 + Model.depth(block);
        }

        int cost(int[] prices) {
            return isLetter() ? prices[0] : prices[1] + Model.cost(block, prices) + prices[2] * corrections.size();
        }

        int repeats() {
            return isLetter() ? 0 : 1 + Model.repeats(block);
        }

        int allCorrections() {
            return isLetter() ? 0 : corrections.size() + Model.allCorrections(block);
        }

        int mostCorrections() {
            return isLetter() ? 0 : Math.max(corrections.size(), Model.mostCorrections(block));
        }
    }

    static String letters(List<Item> items) {
        StringBuilder letters = new StringBuilder();
        items.forEach(item -> letters.append(item.letters()));
        return letters.toString();
    }

    static String text(List<Item> items) {
        StringBuilder text = new StringBuilder();
        items.forEach(item -> text.append(item.text()));
        return text.toString();
    }

    static int depth(List<Item> items) {
        return items.stream().mapToInt(Item::depth).max().orElse(0);
    }

    static int cost(List<Item> items, int[] prices) {
        return items.stream().mapToInt(item -> item.cost(prices)).sum();
    }

    static int repeats(List<Item> items) {
        return items.stream().mapToInt(Item::repeats).sum();
    }

    static int allCorrections(List<Item> items) {
        return items.stream().mapToInt(Item::allCorrections).sum();
    }

    static int mostCorrections(List<Item> items) {
        return items.stream().mapToInt(Item::mostCorrections).max().orElse(0);
    }

    /** Which of two descriptions of the same letters is cheaper in the document's sense: below 0 the first one. */
    static int compare(List<Item> one, List<Item> other, int[] prices) {
        int byCost = Integer.compare(cost(one, prices), cost(other, prices));
        return byCost != 0 ? byCost : compareFrom(one, other, 0, prices);
    }

    private static int compareFrom(List<Item> one, List<Item> other, int index, int[] prices) {
        if (index >= one.size() || index >= other.size()) {
            return 0;
        }
        Item mine = one.get(index);
        Item its = other.get(index);
        int byLength = Integer.compare(its.letters().length(), mine.letters().length());
        if (byLength != 0) {
            return byLength;
        }
        if (!mine.isLetter() && !its.isLetter()) {
            int byBlock = Integer.compare(letters(mine.block()).length(), letters(its.block()).length());
            if (byBlock != 0) {
                return byBlock;
            }
            int likewise = compare(mine.block(), its.block(), prices);
            if (likewise != 0) {
                return likewise;
            }
        }
        return compareFrom(one, other, index + 1, prices);
    }

    /** The repeat of a block that describes the letters, or null if it needs too many corrections. */
    private static Item repeatOf(List<Item> block, int length, String letters, int mostCorrections) {
        TreeMap<Integer, Character> corrections = new TreeMap<>();
        String first = letters.substring(0, length);
        for (int place = 0; place < letters.length(); place++) {
            if (letters.charAt(place) != first.charAt(place % length)) {
                corrections.put(place, letters.charAt(place));
            }
        }
        return corrections.size() > mostCorrections ? null
            : new Item(' ', letters.length() / length, block, corrections);
    }

    /** All descriptions of letters, one by one: for short ones alone. */
    static List<List<Item>> all(String letters, int depth, int mostCorrections) {
        List<List<Item>> found = new ArrayList<>();
        if (letters.isEmpty()) {
            found.add(List.of());
            return found;
        }
        for (int end = 1; end <= letters.length(); end++) {
            List<Item> firsts = new ArrayList<>();
            if (end == 1) {
                firsts.add(Item.of(letters.charAt(0)));
            }
            for (int length = 1; length < end && depth > 0; length++) {
                if (end % length == 0) {
                    for (List<Item> block : all(letters.substring(0, length), depth - 1, mostCorrections)) {
                        Item item = repeatOf(block, length, letters.substring(0, end), mostCorrections);
                        if (item != null) {
                            firsts.add(item);
                        }
                    }
                }
            }
            if (!firsts.isEmpty()) {
                for (List<Item> rest : all(letters.substring(end), depth, mostCorrections)) {
                    for (Item item : firsts) {
                        List<Item> whole = new ArrayList<>();
                        whole.add(item);
                        whole.addAll(rest);
                        found.add(whole);
                    }
                }
            }
        }
        return found;
    }

    String row = "";
    int[] settings = {2, 3, 3, 2, 3};
    String text = "";
    private final Deque<Object[]> history = new ArrayDeque<>();
    private final Map<String, List<Item>> bests = new HashMap<>();
    private final Map<String, BigInteger> numbers = new HashMap<>();

    private void keep() {
        history.addLast(new Object[] {row, settings.clone()});
        if (history.size() > 4) {
            history.removeFirst();
        }
        bests.clear();
        numbers.clear();
    }

    /** The cheapest description, by its promise over the cheapest blocks and rests. */
    List<Item> best(String letters, int depth) {
        if (letters.isEmpty()) {
            return List.of();
        }
        String key = depth + letters;
        List<Item> known = bests.get(key);
        if (known != null) {
            return known;
        }
        List<Item> least = null;
        for (int end = 1; end <= letters.length(); end++) {
            for (int length = 1; length <= end; length++) {
                Item item = end == 1 ? Item.of(letters.charAt(0))
                    : length == end || end % length != 0 || depth == 0 ? null
                    : repeatOf(best(letters.substring(0, length), depth - 1), length, letters.substring(0, end), settings[3]);
                if (item != null) {
                    List<Item> whole = new ArrayList<>();
                    whole.add(item);
                    whole.addAll(best(letters.substring(end), depth));
                    least = least == null || compare(whole, least, settings) < 0 ? whole : least;
                }
            }
        }
        bests.put(key, least);
        return least;
    }

    private BigInteger number(String letters, int depth) {
        if (letters.isEmpty()) {
            return BigInteger.ONE;
        }
        String key = depth + letters;
        BigInteger known = numbers.get(key);
        if (known != null) {
            return known;
        }
        BigInteger sum = number(letters.substring(1), depth);
        for (int end = 2; end <= letters.length() && depth > 0; end++) {
            for (int length = 1; length < end; length++) {
                if (end % length == 0 && repeatOf(List.of(), length, letters.substring(0, end), settings[3]) != null) {
                    sum = sum.add(number(letters.substring(0, length), depth - 1)
                        .multiply(number(letters.substring(end), depth)));
                }
            }
        }
        numbers.put(key, sum);
        return sum;
    }

    private boolean noPart(int from, int to) {
        return from < 0 || to > row.length() || from >= to;
    }

    int append(int letter) {
        if (letter < 0 || letter > 3) {
            return Due.INVALID;
        }
        if (row.length() == 24) {
            return Due.LIMIT;
        }
        keep();
        row += (char) ('a' + letter);
        return row.length();
    }

    int cut(int many) {
        if (many < 1 || many > 24) {
            return Due.INVALID;
        }
        if (many > row.length()) {
            return Due.IMPOSSIBLE;
        }
        keep();
        row = row.substring(0, row.length() - many);
        return row.length();
    }

    private String with(int place, int letter) {
        return row.substring(0, place) + (char) ('a' + letter) + row.substring(place + 1);
    }

    int change(int place, int letter) {
        if (place < 0 || place >= row.length() || letter < 0 || letter > 3) {
            return Due.INVALID;
        }
        keep();
        int before = row.charAt(place) - 'a';
        row = with(place, letter);
        return before;
    }

    int turn() {
        if (row.isEmpty()) {
            return Due.IMPOSSIBLE;
        }
        keep();
        row = new StringBuilder(row).reverse().toString();
        return row.charAt(0) - 'a';
    }

    int set(int what, int value) {
        if (what < 0 || what > 4 || value < LEAST[what] || value > MOST[what]) {
            return Due.INVALID;
        }
        keep();
        int before = settings[what];
        settings = settings.clone();
        settings[what] = value;
        return before;
    }

    int letterAt(int place) {
        return place < 0 ? Due.INVALID : place >= row.length() ? Due.NONE : row.charAt(place) - 'a';
    }

    private static int unlikeIn(String part, int period) {
        int many = 0;
        for (int place = 0; place < part.length(); place++) {
            if (place - period >= 0 && part.charAt(place) != part.charAt(place - period)) {
                many++;
            }
        }
        return many;
    }

    private static int periodIn(String part) {
        int period = 1;
        while (unlikeIn(part, period) != 0) {
            period++;
        }
        return period;
    }

    int unlike(int from, int to, int period) {
        return noPart(from, to) || period < 1 || period > 24 ? Due.INVALID : unlikeIn(row.substring(from, to), period);
    }

    int period(int from, int to) {
        return noPart(from, to) ? Due.INVALID : periodIn(row.substring(from, to));
    }

    private List<int[]> runs() {
        List<int[]> runs = new ArrayList<>();
        for (int from = 0; from < row.length(); from++) {
            for (int to = from + 1; to <= row.length(); to++) {
                int period = periodIn(row.substring(from, to));
                boolean longer = from > 0 && periodIn(row.substring(from - 1, to)) == period
                    || to < row.length() && periodIn(row.substring(from, to + 1)) == period;
                if (2 * period <= to - from && !longer) {
                    runs.add(new int[] {from, to, period});
                }
            }
        }
        runs.sort((one, other) -> {
            int byLength = (other[1] - other[0]) - (one[1] - one[0]);
            return byLength != 0 ? byLength : one[0] != other[0] ? one[0] - other[0] : one[2] - other[2];
        });
        return runs;
    }

    int runOf(int index, int what) {
        if (index < 0 || what < 0 || what > 2) {
            return Due.INVALID;
        }
        List<int[]> runs = runs();
        return index >= runs.size() ? Due.NONE : runs.get(index)[what];
    }

    int cheapest(int from, int to, int what) {
        if (noPart(from, to) || what < 0 || what > 7) {
            return Due.INVALID;
        }
        List<Item> best = best(row.substring(from, to), settings[4]);
        int[] answers = {cost(best, settings), best.size(), depth(best), repeats(best), allCorrections(best),
            text(best).length(), best.get(0).letters().length(), best.get(0).times()};
        return answers[what];
    }

    int textAt(int index) {
        String told = text(best(row, settings[4]));
        return index < 0 ? Due.INVALID : index >= told.length() ? Due.NONE : told.charAt(index);
    }

    long descriptions(int from, int to) {
        return noPart(from, to) ? Due.INVALID : number(row.substring(from, to), settings[4]).longValueExact();
    }

    int would(int place, int letter) {
        if (place < 0 || place >= row.length() || letter < 0 || letter > 3) {
            return Due.INVALID;
        }
        return cost(best(with(place, letter), settings[4]), settings);
    }

    int bestChange(int what) {
        if (what < 0 || what > 2) {
            return Due.INVALID;
        }
        int[] least = {-1, -1, cost(best(row, settings[4]), settings)};
        for (int place = 0; place < row.length(); place++) {
            for (int letter = 0; letter < 4; letter++) {
                int price = would(place, letter);
                if (price < least[2]) {
                    least = new int[] {place, letter, price};
                }
            }
        }
        return least[0] < 0 ? Due.NONE : least[what];
    }

    int type(int character) {
        if (character < 32 || character > 126) {
            return Due.INVALID;
        }
        if (text.length() == 60) {
            return Due.LIMIT;
        }
        text += (char) character;
        return text.length();
    }

    int clearText() {
        int before = text.length();
        text = "";
        return before;
    }

    int fault(int what) {
        if (what < 0 || what > 1) {
            return Due.INVALID;
        }
        int[] fault = new ModelText(text).fault;
        return fault == null ? Due.NONE : fault[what];
    }

    int told(int what) {
        if (what < 0 || what > 5 && what < 100 || what > 123) {
            return Due.INVALID;
        }
        ModelText read = new ModelText(text);
        if (read.fault != null) {
            return Due.IMPOSSIBLE;
        }
        String letters = letters(read.items());
        if (what >= 100) {
            return what - 100 >= letters.length() ? Due.NONE : letters.charAt(what - 100) - 'a';
        }
        int[] answers = {cost(read.items(), settings), letters.length(), depth(read.items()),
            allCorrections(read.items()), mostCorrections(read.items()), letters.equals(row) ? 1 : 0};
        return answers[what];
    }

    int adopt() {
        ModelText read = new ModelText(text);
        if (read.fault != null) {
            return Due.IMPOSSIBLE;
        }
        keep();
        row = letters(read.items());
        return row.length();
    }

    int count(int what) {
        if (what >= 20 && what <= 24) {
            return settings[what - 20];
        }
        return what == 0 ? row.length() : what == 1 ? runs().size() : what == 2 ? history.size()
            : what == 3 ? text.length() : Due.INVALID;
    }

    int undo() {
        if (history.isEmpty()) {
            return Due.IMPOSSIBLE;
        }
        Object[] state = history.removeLast();
        row = (String) state[0];
        settings = (int[]) state[1];
        bests.clear();
        numbers.clear();
        return history.size();
    }

    /** All that can be asked without a change, in one line. */
    String whole() {
        return row + " " + Arrays.toString(settings) + " " + text + " " + history.size();
    }
}
