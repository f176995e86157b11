import java.util.ArrayDeque;
import java.util.ArrayList;
import java.util.Deque;
import java.util.List;
import java.util.TreeMap;

/** A text read character by character, by what may stand next, with a stack of the blocks that are open. */
final class ModelText {
    /** Where the reading stands: what the last character was. */
    private enum Last { BEGIN, LETTER, TIMES, OPEN, CLOSE, BRACKET, PLACE, COMMA, OTHER }

    private static final class Row {
        final List<Model.Item> items = new ArrayList<>();
        int times = 0;
        int firstDigit = 0;
    }

    int[] fault = null;
    private final Deque<Row> open = new ArrayDeque<>();
    private Last last = Last.BEGIN;
    private String number = "";
    private int bracket = 0;
    private char other = ' ';

    ModelText(String text) {
        open.push(new Row());
        for (int place = 0; place < text.length() && fault == null; place++) {
            read(text.charAt(place), place);
        }
        boolean whole = open.size() == 1 && (last == Last.LETTER || last == Last.CLOSE);
        if (fault == null && !whole) {
            fault = new int[] {text.length(), 1};
        }
    }

    List<Model.Item> items() {
        return open.peekLast().items;
    }

    private void read(char sign, int place) {
        boolean item = last == Last.BEGIN || last == Last.OPEN || last == Last.LETTER || last == Last.CLOSE;
        if (item && sign >= 'a' && sign <= 'd') {
            open.peek().items.add(Model.Item.of(sign));
            checkLength(place);
            last = Last.LETTER;
        } else if (item && sign >= '1' && sign <= '9') {
            open.peek().firstDigit = place;
            number = String.valueOf(sign);
            last = Last.TIMES;
        } else if (last == Last.TIMES && Character.isDigit(sign) && number.length() == 1) {
            number += sign;
        } else if (last == Last.TIMES && sign == '(') {
            openBlock();
        } else if ((last == Last.LETTER || last == Last.CLOSE) && sign == ')' && open.size() > 1) {
            closeBlock();
        } else if (last == Last.CLOSE && sign == '[') {
            bracket = place;
            last = Last.BRACKET;
        } else if (last == Last.BRACKET && Character.isDigit(sign)) {
            number = String.valueOf(sign);
            last = Last.PLACE;
        } else if (last == Last.PLACE && Character.isDigit(sign) && number.length() == 1 && !number.equals("0")) {
            number += sign;
        } else if (last == Last.PLACE && sign == ',') {
            last = Last.COMMA;
        } else if (last == Last.COMMA && sign >= 'a' && sign <= 'd') {
            other = sign;
            last = Last.OTHER;
        } else if (last == Last.OTHER && sign == ']') {
            correct();
        } else {
            fault = new int[] {place, 1};
        }
    }

    private void openBlock() {
        int times = Integer.parseInt(number);
        if (times == 1 || times > 24) {
            fault = new int[] {open.peek().firstDigit, 2};
            return;
        }
        open.peek().times = times;
        open.push(new Row());
        last = Last.OPEN;
    }

    private void closeBlock() {
        Row block = open.pop();
        open.peek().items.add(new Model.Item(' ', open.peek().times, block.items, new TreeMap<>()));
        checkLength(open.peek().firstDigit);
        // Only a repeat may be followed by a correction, and a letter never ends as Last.CLOSE.
        last = Last.CLOSE;
    }

    private void checkLength(int place) {
        if (Model.letters(open.peek().items).length() > 24) {
            fault = new int[] {place, 4};
        }
    }

    private void correct() {
        List<Model.Item> items = open.peek().items;
        Model.Item repeat = items.get(items.size() - 1);
        int place = Integer.parseInt(number);
        String letters = repeat.letters();
        boolean behindFirst = place >= Model.letters(repeat.block()).length() && place < letters.length();
        boolean rising = repeat.corrections().isEmpty() || place > repeat.corrections().lastKey();
        if (!behindFirst || !rising || letters.charAt(place) == other) {
            fault = new int[] {bracket, 3};
            return;
        }
        repeat.corrections().put(place, other);
        last = Last.CLOSE;
    }
}
