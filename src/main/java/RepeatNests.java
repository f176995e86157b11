/**
 * Repeats in a row of letters: the cheapest descriptions of its parts by repeats within repeats,
 * their texts and their number, periods and runs, and texts of descriptions that are read.
 */
public final class RepeatNests {
    public static final int INVALID_ARGUMENT = -1000001;
    public static final int NOT_POSSIBLE = -1000002;
    public static final int LIMIT_REACHED = -1000003;
    public static final int NOT_FOUND = -1000004;

    private static final int MOST_LETTERS = 24;
    private static final int MOST_SIGNS = 60;
    private static final int MOST_STATES = 4;
    private static final int KINDS = 4;

    private static final int LETTER_PRICE = 0;
    private static final int REPEAT_PRICE = 1;
    private static final int CORRECTION_PRICE = 2;
    private static final int MOST_CORRECTIONS = 3;
    private static final int MOST_DEPTH = 4;
    private static final int SETTINGS = 5;
    private static final int[] LEAST_VALUES = {1, 0, 0, 0, 0};
    private static final int[] MOST_VALUES = {9, 20, 20, 6, 4};
    private static final int[] FIRST_VALUES = {2, 3, 3, 2, 3};

    /** The depths 0 to 4, and the places 0 to 24 between which parts stand. */
    private static final int DEPTHS = 5;
    private static final int PLACES = MOST_LETTERS + 1;
    /** How many pairs of places there are, the second one not ahead of the first one. */
    private static final int PARTS = PLACES * (PLACES + 1) / 2;

    /** From one place in 24 letters, 60 repeats begin: a block and a number of times each. */
    private static final int MOST_REPEATS = 60;
    /** A row of n letters has fewer than n runs. */
    private static final int MOST_RUNS = 24;
    /** The longest text that a description by any settings has, 24 letters told, is of 135 characters. */
    private static final int MOST_TOLD = 160;
    /** A level of blocks takes 2 characters ("2(") of the 60 at least. */
    private static final int MOST_LEVELS = 30;

    private static final int NO_SIGN = -1;
    private static final int NO_PRICE = 1000000;

    private static final int NOT_ALLOWED = 1;
    private static final int WRONG_TIMES = 2;
    private static final int WRONG_CORRECTION = 3;
    private static final int TOO_LONG = 4;

    private static final int FIRST_SETTING_COUNT = 20;
    private static final int FIRST_LETTER_TOLD = 100;

    private final State state = new State();
    private final History history = new History();
    private final Runs runs = new Runs();
    private final Prices prices = new Prices();
    private final Numbers numbers = new Numbers();
    private final Telling telling = new Telling();
    private final Trial trial = new Trial();
    private final Reader reader = new Reader();

    public RepeatNests() {
    }

    // ---- the row

    public int append(int letter) {
        if (!isKind(letter)) {
            return INVALID_ARGUMENT;
        }
        if (state.size >= MOST_LETTERS) {
            return LIMIT_REACHED;
        }
        beginChange();
        state.addLetter(letter);
        return state.size;
    }

    public int cut(int many) {
        if (many < 1 || many > MOST_LETTERS) {
            return INVALID_ARGUMENT;
        }
        if (state.size < many) {
            return NOT_POSSIBLE;
        }
        beginChange();
        state.size -= many;
        return state.size;
    }

    public int change(int place, int letter) {
        if (!state.hasPlace(place) || !isKind(letter)) {
            return INVALID_ARGUMENT;
        }
        beginChange();
        int before = state.letter(place);
        state.putLetter(place, letter);
        return before;
    }

    public int turn() {
        if (state.size == 0) {
            return NOT_POSSIBLE;
        }
        beginChange();
        state.reverse();
        return state.letter(0);
    }

    public int set(int what, int value) {
        if (what < 0 || what >= SETTINGS || value < LEAST_VALUES[what] || value > MOST_VALUES[what]) {
            return INVALID_ARGUMENT;
        }
        beginChange();
        int before = state.setting(what);
        state.putSetting(what, value);
        return before;
    }

    public int letterAt(int place) {
        if (place < 0) {
            return INVALID_ARGUMENT;
        }
        return state.hasPlace(place) ? state.letter(place) : NOT_FOUND;
    }

    // ---- periods and runs

    public int unlike(int from, int to, int period) {
        if (!state.hasPart(from, to) || period < 1 || period > MOST_LETTERS) {
            return INVALID_ARGUMENT;
        }
        return state.unlikeLetters(from, to, period);
    }

    public int period(int from, int to) {
        return state.hasPart(from, to) ? state.leastPeriod(from, to) : INVALID_ARGUMENT;
    }

    public int runOf(int index, int what) {
        if (index < 0 || what < 0 || what > 2) {
            return INVALID_ARGUMENT;
        }
        runs.refresh(state);
        return index < runs.number ? runs.tell(index, what) : NOT_FOUND;
    }

    // ---- descriptions

    public int cheapest(int from, int to, int what) {
        if (!state.hasPart(from, to) || what < 0 || what > 7) {
            return INVALID_ARGUMENT;
        }
        prices.refresh(state);
        if (what == 0) {
            return prices.price(state.setting(MOST_DEPTH), from, to);
        }
        telling.refresh(state, prices, from, to);
        return telling.measure(what);
    }

    public int textAt(int index) {
        if (index < 0) {
            return INVALID_ARGUMENT;
        }
        if (state.size == 0) {
            return NOT_FOUND;
        }
        prices.refresh(state);
        telling.refresh(state, prices, 0, state.size);
        return index < telling.length ? telling.sign(index) : NOT_FOUND;
    }

    public long descriptions(int from, int to) {
        if (!state.hasPart(from, to)) {
            return INVALID_ARGUMENT;
        }
        numbers.refresh(state);
        return numbers.number(state.setting(MOST_DEPTH), from, to);
    }

    public int would(int place, int letter) {
        if (!state.hasPlace(place) || !isKind(letter)) {
            return INVALID_ARGUMENT;
        }
        return trial.priceWith(state, place, letter);
    }

    public int bestChange(int what) {
        if (what < 0 || what > 2) {
            return INVALID_ARGUMENT;
        }
        trial.refresh(state);
        if (!trial.found) {
            return NOT_FOUND;
        }
        if (what == 0) {
            return trial.bestPlace;
        }
        return what == 1 ? trial.bestLetter : trial.bestPrice;
    }

    // ---- texts

    public int type(int character) {
        if (character < 32 || character > 126) {
            return INVALID_ARGUMENT;
        }
        if (reader.length >= MOST_SIGNS) {
            return LIMIT_REACHED;
        }
        reader.add(character);
        return reader.length;
    }

    public int clearText() {
        int before = reader.length;
        reader.empty();
        return before;
    }

    public int fault(int what) {
        if (what < 0 || what > 1) {
            return INVALID_ARGUMENT;
        }
        reader.refresh();
        if (!reader.hasFault()) {
            return NOT_FOUND;
        }
        return what == 0 ? reader.faultPlace : reader.faultReason;
    }

    public int told(int what) {
        int place = what - FIRST_LETTER_TOLD;
        boolean ofLetter = what >= FIRST_LETTER_TOLD && place < MOST_LETTERS;
        if (!ofLetter && (what < 0 || what > 5)) {
            return INVALID_ARGUMENT;
        }
        reader.refresh();
        if (reader.hasFault()) {
            return NOT_POSSIBLE;
        }
        if (ofLetter) {
            return place < reader.size ? reader.letter(place) : NOT_FOUND;
        }
        return reader.measure(what, state);
    }

    public int adopt() {
        reader.refresh();
        if (reader.hasFault()) {
            return NOT_POSSIBLE;
        }
        beginChange();
        state.size = 0;
        for (int place = 0; place < reader.size; place++) {
            state.addLetter(reader.letter(place));
        }
        return state.size;
    }

    public int count(int what) {
        if (what >= FIRST_SETTING_COUNT && what < FIRST_SETTING_COUNT + SETTINGS) {
            return state.setting(what - FIRST_SETTING_COUNT);
        }
        switch (what) {
            case 0:
                return state.size;
            case 1:
                runs.refresh(state);
                return runs.number;
            case 2:
                return history.size;
            case 3:
                return reader.length;
            default:
                return INVALID_ARGUMENT;
        }
    }

    public int undo() {
        if (history.size == 0) {
            return NOT_POSSIBLE;
        }
        history.giveBack(state);
        forgetAnswers();
        return history.size;
    }

    // ---- within

    private void beginChange() {
        history.keep(state);
        forgetAnswers();
    }

    private void forgetAnswers() {
        runs.fresh = false;
        prices.fresh = false;
        numbers.fresh = false;
        telling.fresh = false;
        trial.fresh = false;
    }

    private static boolean isKind(int letter) {
        return letter >= 0 && letter < KINDS;
    }

    /** Where tables hold a part at a depth: parts of one end stand side by side, as they are summed up so. */
    private static int partIndex(int depth, int from, int to) {
        return depth * PARTS + to * (to + 1) / 2 + from;
    }

    /** The row and the settings: what a change records. */
    private static final class State {
        private final int[] letters = new int[MOST_LETTERS];
        private final int[] settings = new int[SETTINGS];
        private int size = 0;

        State() {
            for (int what = 0; what < SETTINGS; what++) {
                settings[what] = FIRST_VALUES[what];
            }
        }

        void copyFrom(State other) {
            for (int place = 0; place < MOST_LETTERS; place++) {
                letters[place] = other.letters[place];
            }
            for (int what = 0; what < SETTINGS; what++) {
                settings[what] = other.settings[what];
            }
            size = other.size;
        }

        boolean hasPlace(int place) {
            return place >= 0 && place < size;
        }

        boolean hasPart(int from, int to) {
            return from >= 0 && from < to && to <= size;
        }

        int letter(int place) {
            return place >= 0 && place < size && place < MOST_LETTERS ? letters[place] : NO_SIGN;
        }

        void putLetter(int place, int letter) {
            if (place >= 0 && place < size && place < MOST_LETTERS) {
                letters[place] = letter;
            }
        }

        void addLetter(int letter) {
            if (size >= 0 && size < MOST_LETTERS) {
                letters[size] = letter;
                size++;
            }
        }

        void reverse() {
            for (int place = 0; place < size / 2; place++) {
                int ahead = letter(place);
                int mirrored = size - 1 - place;
                putLetter(place, letter(mirrored));
                putLetter(mirrored, ahead);
            }
        }

        int setting(int what) {
            return what >= 0 && what < SETTINGS ? settings[what] : 0;
        }

        void putSetting(int what, int value) {
            if (what >= 0 && what < SETTINGS) {
                settings[what] = value;
            }
        }

        int unlikeLetters(int from, int to, int distance) {
            int many = 0;
            for (int place = from + distance; place < to; place++) {
                if (letter(place) != letter(place - distance)) {
                    many++;
                }
            }
            return many;
        }

        int leastPeriod(int from, int to) {
            for (int distance = 1; distance < to - from; distance++) {
                if (unlikeLetters(from, to, distance) == 0) {
                    return distance;
                }
            }
            return to - from;
        }
    }

    /** The states that can be restored, the oldest one first. */
    private static final class History {
        private final State[] states = new State[MOST_STATES];
        private int size = 0;

        History() {
            for (int index = 0; index < MOST_STATES; index++) {
                states[index] = new State();
            }
        }

        void keep(State now) {
            if (size >= MOST_STATES) {
                dropOldest();
            }
            State kept = state(size);
            if (kept != null) {
                kept.copyFrom(now);
                size++;
            }
        }

        /** The dropped state's object goes to the end, where it is used again. */
        private void dropOldest() {
            State oldest = states[0];
            for (int index = 1; index < MOST_STATES; index++) {
                states[index - 1] = states[index];
            }
            states[MOST_STATES - 1] = oldest;
            size--;
        }

        void giveBack(State now) {
            State latest = state(size - 1);
            if (latest != null) {
                now.copyFrom(latest);
                size--;
            }
        }

        private State state(int index) {
            return index >= 0 && index < MOST_STATES ? states[index] : null;
        }
    }

    /** The runs of a row, in their order. */
    private static final class Runs {
        private final int[] froms = new int[MOST_RUNS];
        private final int[] tos = new int[MOST_RUNS];
        private final int[] periods = new int[MOST_RUNS];
        private int number = 0;
        private boolean fresh = false;

        void refresh(State state) {
            if (fresh) {
                return;
            }
            fresh = true;
            number = 0;
            for (int length = state.size; length >= 2; length--) {
                for (int from = 0; from + length <= state.size; from++) {
                    look(state, from, from + length);
                }
            }
        }

        private void look(State state, int from, int to) {
            int least = state.leastPeriod(from, to);
            if (2 * least > to - from || goesOn(state, from, to, least)) {
                return;
            }
            if (number >= 0 && number < MOST_RUNS) {
                froms[number] = from;
                tos[number] = to;
                periods[number] = least;
                number++;
            }
        }

        /** A longer part has the same least period if it has that period at all. */
        private static boolean goesOn(State state, int from, int to, int distance) {
            return from > 0 && state.letter(from - 1) == state.letter(from - 1 + distance)
                || to < state.size && state.letter(to) == state.letter(to - distance);
        }

        int tell(int index, int what) {
            if (index < 0 || index >= number || index >= MOST_RUNS) {
                return NOT_FOUND;
            }
            if (what == 0) {
                return froms[index];
            }
            return what == 1 ? tos[index] : periods[index];
        }
    }

    /** The repeats that may begin at a place, by rising blocks, those of one block by rising ends. */
    private static final class Repeats {
        /** For each letter the places where it stands, as bits. */
        private final int[] standing = new int[KINDS];
        /** For each distance the places, as bits, whose letter is not that so many places behind them. */
        private final int[] unlike = new int[MOST_LETTERS];
        private final int[] blocks = new int[MOST_REPEATS];
        private final int[] ends = new int[MOST_REPEATS];
        /** What the repeats cost without their blocks. */
        private final int[] prices = new int[MOST_REPEATS];
        private int rowSize = 0;
        private int repeatPrice = 0;
        private int correctionPrice = 0;
        private int mostCorrections = 0;
        private int number = 0;

        /** Takes the row in which repeats are to be found. */
        void look(State state) {
            rowSize = state.size;
            repeatPrice = state.setting(REPEAT_PRICE);
            correctionPrice = state.setting(CORRECTION_PRICE);
            mostCorrections = state.setting(MOST_CORRECTIONS);
            for (int kind = 0; kind < KINDS; kind++) {
                standing[kind] = 0;
            }
            for (int place = 0; place < rowSize; place++) {
                int kind = state.letter(place);
                if (isKind(kind)) {
                    standing[kind] |= 1 << place;
                }
            }
            for (int distance = 1; distance < MOST_LETTERS; distance++) {
                int like = 0;
                for (int kind = 0; kind < KINDS; kind++) {
                    like |= standing[kind] & (standing[kind] >> distance);
                }
                unlike[distance] = ~like;
            }
        }

        void find(int from) {
            number = 0;
            for (int block = 1; from + 2 * block <= rowSize; block++) {
                findOf(from, block);
            }
        }

        /** What a block describes stands first, so the corrections are where later copies differ from it. */
        private void findOf(int from, int block) {
            int first = ((1 << block) - 1) << from;
            int wrong = 0;
            for (int times = 2; times <= MOST_LETTERS && from + times * block <= rowSize; times++) {
                int distance = (times - 1) * block;
                if (distance < 1 || distance >= MOST_LETTERS || number < 0 || number >= MOST_REPEATS) {
                    return;
                }
                wrong += Integer.bitCount(unlike[distance] & first);
                if (wrong > mostCorrections) {
                    return;
                }
                blocks[number] = block;
                ends[number] = from + times * block;
                prices[number] = repeatPrice + wrong * correctionPrice;
                number++;
            }
        }
    }

    /** A table over the parts of a row, for each greatest depth. */
    private abstract static class Parts {
        final Repeats repeats = new Repeats();
        boolean fresh = false;

        final void refresh(State state) {
            if (!fresh) {
                fresh = true;
                fill(state, state.size - 1, false);
            }
        }

        /**
         * Fills in the parts that begin at the highest place or ahead of it; those behind it stand already.
         * With wholeOnly, of the parts that are no blocks only those up to the end of the row are needed.
         */
        final void fill(State state, int highest, boolean wholeOnly) {
            repeats.look(state);
            int greatest = Math.min(state.setting(MOST_DEPTH), DEPTHS - 1);
            for (int from = highest; from >= 0; from--) {
                repeats.find(from);
                for (int depth = 0; depth <= greatest; depth++) {
                    // A block is at most half as long as what its repeat describes.
                    int longest = state.size >> (greatest - depth);
                    int last = Math.min(state.size, from + longest);
                    int first = wholeOnly && depth == greatest ? state.size : from + 1;
                    findItems(state, depth, from, last);
                    for (int to = first; to <= last; to++) {
                        fillPart(depth, from, to);
                    }
                }
            }
        }

        /** Finds what fillPart is to know of the items that begin at a place and end at the last one at most. */
        abstract void findItems(State state, int depth, int from, int last);

        abstract void fillPart(int depth, int from, int to);
    }

    /** What the parts cost, described most cheaply. */
    private static final class Prices extends Parts {
        private final int[] table = new int[DEPTHS * PARTS];
        private final int[] items = new int[PLACES];

        int price(int depth, int from, int to) {
            int index = partIndex(depth, from, to);
            return index >= 0 && index < table.length ? table[index] : 0;
        }

        /** Finds for each end the cheapest item. */
        void findItems(State state, int depth, int from, int last) {
            for (int end = from + 1; end >= 0 && end <= last && end < PLACES; end++) {
                items[end] = end == from + 1 ? state.setting(LETTER_PRICE) : NO_PRICE;
            }
            for (int index = 0; depth > 0 && index < repeats.number && index < MOST_REPEATS; index++) {
                int end = repeats.ends[index];
                int block = partIndex(depth - 1, from, from + repeats.blocks[index]);
                if (end >= 0 && end <= last && end < PLACES && block >= 0 && block < table.length) {
                    int price = repeats.prices[index] + table[block];
                    if (price < items[end]) {
                        items[end] = price;
                    }
                }
            }
        }

        void fillPart(int depth, int from, int to) {
            int least = NO_PRICE;
            int rest = partIndex(depth, from + 1, to);
            for (int end = from + 1; end >= 0 && end <= to && end < PLACES && rest >= 0 && rest < table.length; end++) {
                int price = items[end] + table[rest];
                if (price < least) {
                    least = price;
                }
                rest++;
            }
            int index = partIndex(depth, from, to);
            if (index >= 0 && index < table.length) {
                table[index] = least;
            }
        }

        /** What the row costs. */
        int rowPrice(State state) {
            return price(state.setting(MOST_DEPTH), 0, state.size);
        }
    }

    /** How many descriptions the parts have. */
    private static final class Numbers extends Parts {
        private final long[] table = new long[DEPTHS * PARTS];
        private final long[] items = new long[PLACES];

        Numbers() {
            for (int depth = 0; depth < DEPTHS; depth++) {
                for (int place = 0; place < PLACES; place++) {
                    put(partIndex(depth, place, place), 1);
                }
            }
        }

        long number(int depth, int from, int to) {
            int index = partIndex(depth, from, to);
            return index >= 0 && index < table.length ? table[index] : 0;
        }

        private void put(int index, long number) {
            if (index >= 0 && index < table.length) {
                table[index] = number;
            }
        }

        /** Counts for each end the items. */
        void findItems(State state, int depth, int from, int last) {
            for (int end = from + 1; end >= 0 && end <= last && end < PLACES; end++) {
                items[end] = end == from + 1 ? 1 : 0;
            }
            for (int index = 0; depth > 0 && index < repeats.number && index < MOST_REPEATS; index++) {
                int end = repeats.ends[index];
                int block = partIndex(depth - 1, from, from + repeats.blocks[index]);
                if (end >= 0 && end <= last && end < PLACES && block >= 0 && block < table.length) {
                    items[end] += table[block];
                }
            }
        }

        void fillPart(int depth, int from, int to) {
            long sum = 0;
            int rest = partIndex(depth, from + 1, to);
            for (int end = from + 1; end >= 0 && end <= to && end < PLACES && rest >= 0 && rest < table.length; end++) {
                sum += items[end] * table[rest];
                rest++;
            }
            put(partIndex(depth, from, to), sum);
        }
    }

    /** The text of the cheapest description of a part, and its measures. */
    private static final class Telling {
        private final Repeats repeats = new Repeats();
        private final int[] signs = new int[MOST_TOLD];
        private int length = 0;
        private int partFrom = 0;
        private int partTo = 0;
        private int items = 0;
        private int deepest = 0;
        private int repeatsTold = 0;
        private int correctionsTold = 0;
        private int firstLetters = 0;
        private int firstTimes = 0;
        private int chosenEnd = 0;
        private int chosenBlock = 0;
        private boolean fresh = false;

        void refresh(State state, Prices prices, int from, int to) {
            if (fresh && partFrom == from && partTo == to) {
                return;
            }
            fresh = true;
            partFrom = from;
            partTo = to;
            length = 0;
            repeatsTold = 0;
            correctionsTold = 0;
            repeats.look(state);
            int depth = state.setting(MOST_DEPTH);
            choose(state, prices, depth, from, to);
            firstLetters = chosenEnd - from;
            firstTimes = chosenBlock > 0 ? firstLetters / chosenBlock : 1;
            deepest = tellItems(state, prices, depth, from, to);
        }

        int measure(int what) {
            switch (what) {
                case 1:
                    return items;
                case 2:
                    return deepest;
                case 3:
                    return repeatsTold;
                case 4:
                    return correctionsTold;
                case 5:
                    return length;
                case 6:
                    return firstLetters;
                default:
                    return firstTimes;
            }
        }

        int sign(int index) {
            return index >= 0 && index < MOST_TOLD ? signs[index] : NO_SIGN;
        }

        /** Tells the items of a part and returns their depth. */
        private int tellItems(State state, Prices prices, int depth, int from, int to) {
            int many = 0;
            int most = 0;
            int place = from;
            while (place < to && many < MOST_LETTERS) {
                choose(state, prices, depth, place, to);
                int end = chosenEnd;
                if (chosenBlock > 0 && depth > 0) {
                    most = Math.max(most, 1 + tellRepeat(state, prices, depth, place, end, chosenBlock));
                } else {
                    put('a' + state.letter(place));
                }
                place = end;
                many++;
            }
            // Of all rows of items the outermost one ends last, and its number stays.
            items = many;
            return most;
        }

        /** Tells a repeat and returns the depth of its block. */
        private int tellRepeat(State state, Prices prices, int depth, int from, int end, int block) {
            repeatsTold++;
            putNumber(block > 0 ? (end - from) / block : 1);
            put('(');
            int most = tellItems(state, prices, depth - 1, from, from + block);
            put(')');
            for (int copy = from + block; copy < end; copy += Math.max(block, 1)) {
                tellCorrections(state, from, copy, block);
            }
            return most;
        }

        private void tellCorrections(State state, int from, int copy, int block) {
            for (int step = 0; step < block; step++) {
                int letter = state.letter(copy + step);
                if (letter != state.letter(from + step)) {
                    correctionsTold++;
                    put('[');
                    putNumber(copy + step - from);
                    put(',');
                    put('a' + letter);
                    put(']');
                }
            }
        }

        /** Chooses the first item: of the cheapest ones that with most letters, then with the shortest block. */
        private void choose(State state, Prices prices, int depth, int from, int to) {
            chosenEnd = from + 1;
            chosenBlock = 0;
            if (depth <= 0) {
                return;
            }
            int due = prices.price(depth, from, to);
            repeats.find(from);
            for (int index = 0; index < repeats.number && index < MOST_REPEATS; index++) {
                int end = repeats.ends[index];
                int block = repeats.blocks[index];
                int item = repeats.prices[index] + prices.price(depth - 1, from, from + block);
                if (end > chosenEnd && end <= to && item + prices.price(depth, end, to) == due) {
                    chosenEnd = end;
                    chosenBlock = block;
                }
            }
        }

        private void putNumber(int number) {
            if (number >= 10) {
                put('0' + number / 10);
            }
            put('0' + number % 10);
        }

        private void put(int sign) {
            if (length >= 0 && length < MOST_TOLD) {
                signs[length] = sign;
                length++;
            }
        }
    }

    /** What the row would cost with another letter, tried on a row of its own. */
    private static final class Trial {
        private final State tried = new State();
        private final Prices prices = new Prices();
        private boolean fresh = false;
        private boolean found = false;
        private int bestPlace = 0;
        private int bestLetter = 0;
        private int bestPrice = 0;

        int priceWith(State state, int place, int letter) {
            tried.copyFrom(state);
            tried.putLetter(place, letter);
            prices.fill(tried, tried.size - 1, true);
            return prices.rowPrice(tried);
        }

        /** By rising places, what is behind the place in hand is still priced for the row as it is. */
        void refresh(State state) {
            if (fresh) {
                return;
            }
            fresh = true;
            found = false;
            tried.copyFrom(state);
            prices.fill(tried, tried.size - 1, true);
            bestPrice = prices.rowPrice(tried);
            for (int place = 0; place < tried.size; place++) {
                int before = tried.letter(place);
                for (int letter = 0; letter < KINDS; letter++) {
                    if (letter != before) {
                        tried.putLetter(place, letter);
                        prices.fill(tried, place, true);
                        take(place, letter, prices.rowPrice(tried));
                    }
                }
                tried.putLetter(place, before);
            }
        }

        private void take(int place, int letter, int price) {
            if (price < bestPrice) {
                found = true;
                bestPlace = place;
                bestLetter = letter;
                bestPrice = price;
            }
        }
    }

    /** The text that is typed, and what it tells or the first fault in it. */
    private static final class Reader {
        private final int[] signs = new int[MOST_SIGNS];
        /** What is described so far by the items of all levels that are open, the outermost one first. */
        private final int[] letters = new int[(MOST_LEVELS + 1) * MOST_LETTERS];
        private int length = 0;
        private int at = 0;
        private int size = 0;
        private int faultPlace = 0;
        private int faultReason = 0;
        private int lettersTold = 0;
        private int repeatsTold = 0;
        private int correctionsTold = 0;
        private int mostCorrections = 0;
        private int deepest = 0;
        private boolean fresh = false;

        void add(int sign) {
            if (length >= 0 && length < MOST_SIGNS) {
                signs[length] = sign;
                length++;
            }
            fresh = false;
        }

        void empty() {
            length = 0;
            fresh = false;
        }

        boolean hasFault() {
            return faultReason != 0;
        }

        int letter(int place) {
            return place >= 0 && place < letters.length ? letters[place] : NO_SIGN;
        }

        int measure(int what, State state) {
            switch (what) {
                case 0:
                    return lettersTold * state.setting(LETTER_PRICE) + repeatsTold * state.setting(REPEAT_PRICE)
                        + correctionsTold * state.setting(CORRECTION_PRICE);
                case 1:
                    return size;
                case 2:
                    return deepest;
                case 3:
                    return correctionsTold;
                case 4:
                    return mostCorrections;
                default:
                    return describes(state) ? 1 : 0;
            }
        }

        private boolean describes(State state) {
            if (size != state.size) {
                return false;
            }
            for (int place = 0; place < size; place++) {
                if (letter(place) != state.letter(place)) {
                    return false;
                }
            }
            return true;
        }

        void refresh() {
            if (fresh) {
                return;
            }
            fresh = true;
            at = 0;
            size = 0;
            faultPlace = 0;
            faultReason = 0;
            lettersTold = 0;
            repeatsTold = 0;
            correctionsTold = 0;
            mostCorrections = 0;
            deepest = readItems(0);
        }

        /** Reads the items of the text (level 0) or of a block up to their end, and returns their depth. */
        private int readItems(int level) {
            int start = size;
            int most = 0;
            for (int turn = 0; turn < MOST_SIGNS && level <= MOST_LEVELS; turn++) {
                if (isLetter(sign())) {
                    readLetter(start);
                } else {
                    most = Math.max(most, readRepeat(level, start));
                }
                boolean ended = level == 0 ? at >= length : sign() == ')';
                if (ended || hasFault()) {
                    return most;
                }
            }
            blame(at, NOT_ALLOWED);
            return most;
        }

        /** Reads a letter of the row of items whose letters begin at the start. */
        private void readLetter(int start) {
            if (size - start >= MOST_LETTERS) {
                blame(at, TOO_LONG);
                return;
            }
            putLetter(size, sign() - 'a');
            size++;
            lettersTold++;
            at++;
        }

        /** Reads a repeat, which is the only other item, and returns its depth. */
        private int readRepeat(int level, int start) {
            int first = at;
            if (!isDigit(sign()) || sign() == '0') {
                blame(at, NOT_ALLOWED);
                return 0;
            }
            int times = readNumber();
            if (!reads('(')) {
                return 0;
            }
            if (times < 2 || times > MOST_LETTERS) {
                blame(first, WRONG_TIMES);
                return 0;
            }
            int blockStart = size;
            int depth = 1 + readItems(level + 1);
            if (hasFault() || !reads(')')) {
                return 0;
            }
            int block = size - blockStart;
            if (blockStart - start + block * times > MOST_LETTERS) {
                blame(first, TOO_LONG);
                return 0;
            }
            repeatsTold++;
            unfold(blockStart, block * times);
            readCorrections(blockStart, block);
            return depth;
        }

        /** Copies what a block describes until so many letters stand. */
        private void unfold(int blockStart, int many) {
            int block = size - blockStart;
            for (int step = block; step < many; step++) {
                putLetter(blockStart + step, letter(blockStart + step - block));
            }
            size = blockStart + many;
        }

        /** Reads the corrections of a repeat that is unfolded from the start to the end of the letters. */
        private void readCorrections(int start, int block) {
            int many = 0;
            int last = block - 1;
            while (sign() == '[' && many < MOST_SIGNS) {
                last = readCorrection(start, last);
                if (hasFault()) {
                    return;
                }
                many++;
            }
            correctionsTold += many;
            mostCorrections = Math.max(mostCorrections, many);
        }

        /** Reads a correction whose place is to be above the last one, and returns its place. */
        private int readCorrection(int start, int last) {
            int bracket = at;
            at++;
            if (!isDigit(sign())) {
                blame(at, NOT_ALLOWED);
                return last;
            }
            int place = readNumber();
            if (!reads(',')) {
                return last;
            }
            int sign = sign();
            if (!isLetter(sign)) {
                blame(at, NOT_ALLOWED);
                return last;
            }
            at++;
            if (!reads(']')) {
                return last;
            }
            if (place <= last || place >= size - start || letter(start + place) == sign - 'a') {
                blame(bracket, WRONG_CORRECTION);
                return last;
            }
            putLetter(start + place, sign - 'a');
            return place;
        }

        /** Reads a number of 1 or 2 digits that begins here. */
        private int readNumber() {
            int number = sign() - '0';
            at++;
            if (number != 0 && isDigit(sign())) {
                number = 10 * number + sign() - '0';
                at++;
            }
            return number;
        }

        /** Reads the sign that alone is allowed here. */
        private boolean reads(int wanted) {
            if (sign() != wanted) {
                blame(at, NOT_ALLOWED);
                return false;
            }
            at++;
            return true;
        }

        private int sign() {
            return at >= 0 && at < length && at < MOST_SIGNS ? signs[at] : NO_SIGN;
        }

        private void putLetter(int place, int letter) {
            if (place >= 0 && place < letters.length) {
                letters[place] = letter;
            }
        }

        private void blame(int place, int reason) {
            if (faultReason == 0) {
                faultPlace = place;
                faultReason = reason;
            }
        }

        private static boolean isLetter(int sign) {
            return sign >= 'a' && sign < 'a' + KINDS;
        }

        private static boolean isDigit(int sign) {
            return sign >= '0' && sign <= '9';
        }
    }
}
