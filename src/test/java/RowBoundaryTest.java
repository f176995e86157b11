/**
 * Each sentence of the document that names a boundary case of rows, parts, periods, runs, settings, changes
 * or errors has a test of its own here; the sentence stands above it.
 */
public final class RowBoundaryTest {
    private static final String FULL = "abcdabcdabcdabcdabcdabca";
    private static final int LOW = Integer.MIN_VALUE;
    private static final int HIGH = Integer.MAX_VALUE;
    private static final int[] LEAST = {1, 0, 0, 0, 0};
    private static final int[] MOST = {9, 20, 20, 6, 4};
    private static final int[] FIRST = {2, 3, 3, 2, 3};

    private RowBoundaryTest() {
    }

    public static void main(String[] args) {
        row();
        parts();
        periods();
        runs();
        settings();
        changes();
        errors();
        Due.end();
    }

    private static void row() {
        newObjectIsEmpty();
        lastOfTheCalls();
        atMost24Letters();
        roomBehindCut();
        lettersFrom0To3();
        placesFrom0On();
        cutsFrom1To24();
        cutOfMoreThanThereAre();
        cutOfAll();
        changeOfAPlaceOfTheRow();
        changeToALetter();
        turnOfNone();
        turnOfFewAndOfFull();
        letterAtNegative();
        letterAtBehindTheEnd();
    }

    private static void parts() {
        partEndsAheadOfTheSecondPlace();
        partHasALetter();
        partIsInTheRow();
        noPartInAnEmptyRow();
        noPartBehindACut();
    }

    private static void periods() {
        unlikePeriodFrom1To24();
        unlikeOfAsManyAsThePart();
        unlikeInThePart();
        unlikeOfAll();
        periodOfALetter();
        periodAtMostTheLength();
        periodIsTheLeast();
    }

    private static void runs() {
        runPeriodAtMostHalf();
        runNotLongerAtItsEnds();
        runsMayOverlap();
        runsOfTheWholeRow();
        runsInOrder();
        runsOfNoneAndOfOne();
        runIndexNegative();
        runIndexBehindTheLast();
        runNumbers();
    }

    private static void settings() {
        firstValues();
        valuesInTheirRanges();
        noSuchSetting();
        noSuchCount();
    }

    private static void changes() {
        changesAreRecorded();
        changesToTheSameAreRecorded();
        othersAreNoChanges();
        refusedOnesAreNoChanges();
        atMost4States();
        oldestStateIsDropped();
        everythingIsRecorded();
        textIsNotRecorded();
        undoOfNone();
        undoTellsWhatIsLeft();
        undoIsNoChange();
        changeBehindUndo();
    }

    private static void errors() {
        constants();
        argumentAheadOfState();
        argumentAheadOfLimit();
        argumentAheadOfNotFound();
        stateAheadOfNotFound();
        errorsChangeNothing();
        errorsLeaveTheHistory();
    }

    // ---- the row

    /** "Creates an empty row." "There is a text of at most 60 characters, initially empty." */
    private static void newObjectIsEmpty() {
        RepeatNests x = new RepeatNests();
        for (int what = 0; what <= 3; what++) {
            Due.is("new: count(" + what + ")", x.count(what), 0);
        }
        Due.is("new: letterAt(0)", x.letterAt(0), Due.NONE);
        Due.is("new: textAt(0)", x.textAt(0), Due.NONE);
        Due.is("new: runOf(0, 0)", x.runOf(0, 0), Due.NONE);
        Due.is("new: bestChange(0)", x.bestChange(0), Due.NONE);
        Due.is("new: undo()", x.undo(), Due.IMPOSSIBLE);
        Due.is("new: clearText()", x.clearText(), 0);
    }

    /** "An object is used for at most 512 calls after it has been made." */
    private static void lastOfTheCalls() {
        RepeatNests x = new RepeatNests();
        for (int call = 1; call <= 508; call += 2) {
            Due.is("append as call " + call, x.append(call / 2 % 4), 1);
            Due.is("cut as call " + (call + 1), x.cut(1), 0);
        }
        Due.is("append as call 509", x.append(2), 1);
        Due.is("append as call 510", x.append(2), 2);
        Due.is("cheapest as call 511", x.cheapest(0, 2, 0), 4);
        Due.is("undo as call 512", x.undo(), 3);
        RepeatNests typing = new RepeatNests();
        for (int call = 1; call <= 512; call++) {
            Due.is("type as call " + call, typing.type('a'), call <= 60 ? call : Due.LIMIT);
        }
    }

    /** "The row has at most 24 letters"; append: "LIMIT_REACHED if it has 24". */
    private static void atMost24Letters() {
        RepeatNests x = new RepeatNests();
        for (int many = 1; many <= 24; many++) {
            Due.is("append number " + many, x.append(many % 4), many);
        }
        for (int letter = 0; letter <= 3; letter++) {
            Due.is("append(" + letter + ") to 24", x.append(letter), Due.LIMIT);
        }
        Due.is("letters of a full row", x.count(0), 24);
        Due.is("the last letter of a full row", x.letterAt(23), 0);
    }

    /** append: "LIMIT_REACHED if it has 24", and no longer when it has fewer. */
    private static void roomBehindCut() {
        RepeatNests x = Due.row(FULL);
        x.cut(1);
        Due.is("append to 23", x.append(3), 24);
        Due.is("append to 24 again", x.append(3), Due.LIMIT);
        x.undo();
        Due.is("append to 23 behind undo", x.append(2), 24);
        Due.is("the letter appended behind undo", x.letterAt(23), 2);
    }

    /** "letters a, b, c, d, told as 0 to 3"; append: "letter: 0 to 3". */
    private static void lettersFrom0To3() {
        RepeatNests x = new RepeatNests();
        int[] wrong = {-1, 4, 'a', LOW, HIGH};
        for (int letter : wrong) {
            Due.is("append(" + letter + ")", x.append(letter), Due.INVALID);
        }
        for (int letter = 0; letter <= 3; letter++) {
            Due.is("append(" + letter + ")", x.append(letter), letter + 1);
            Due.is("letterAt(" + letter + ")", x.letterAt(letter), letter);
            Due.is("sign of letter " + letter, x.textAt(letter), "abcd".charAt(letter));
        }
    }

    /** "at places from 0 on". */
    private static void placesFrom0On() {
        RepeatNests x = Due.row("dabc");
        Due.is("letterAt(0)", x.letterAt(0), 3);
        Due.is("change(0, 2)", x.change(0, 2), 3);
        Due.same("the first letter changed", Due.rowOf(x), "cabc");
        Due.is("period from place 0", x.period(0, 4), 3);
    }

    /** cut: "many: 1 to 24". */
    private static void cutsFrom1To24() {
        int[] wrong = {0, -1, 25, LOW, HIGH};
        for (int many : wrong) {
            Due.is("cut(" + many + ") of 24", Due.row(FULL).cut(many), Due.INVALID);
            Due.is("cut(" + many + ") of none", new RepeatNests().cut(many), Due.INVALID);
        }
        for (int many = 1; many <= 24; many++) {
            RepeatNests x = Due.row(FULL);
            Due.is("cut(" + many + ") of 24", x.cut(many), 24 - many);
            Due.same("the row behind cut(" + many + ")", Due.rowOf(x), FULL.substring(0, 24 - many));
        }
    }

    /** cut: "NOT_POSSIBLE if it has fewer". */
    private static void cutOfMoreThanThereAre() {
        Due.is("cut(1) of none", new RepeatNests().cut(1), Due.IMPOSSIBLE);
        Due.is("cut(24) of none", new RepeatNests().cut(24), Due.IMPOSSIBLE);
        Due.is("cut(24) of 23", Due.row(FULL.substring(1)).cut(24), Due.IMPOSSIBLE);
        RepeatNests x = Due.row("abc");
        Due.is("cut(4) of 3", x.cut(4), Due.IMPOSSIBLE);
        Due.is("cut(3) of 3", x.cut(3), 0);
        Due.is("cut(1) behind that", x.cut(1), Due.IMPOSSIBLE);
    }

    /** cut: "Takes the last letters of the row away." "Returns how many letters it has then": all of them. */
    private static void cutOfAll() {
        RepeatNests x = Due.row(FULL);
        Due.is("cut(24)", x.cut(24), 0);
        Due.is("letterAt(0) behind that", x.letterAt(0), Due.NONE);
        Due.is("turn behind that", x.turn(), Due.IMPOSSIBLE);
        Due.is("runs behind that", x.count(1), 0);
        Due.is("append behind that", x.append(1), 1);
        Due.same("the row behind that", Due.rowOf(x), "b");
    }

    /** change: "place: a place of the row". */
    private static void changeOfAPlaceOfTheRow() {
        int[] places = {-1, 0, 23, 24, LOW, HIGH};
        for (int place : places) {
            Due.is("change(" + place + ", 0) of none", new RepeatNests().change(place, 0), Due.INVALID);
            Due.is("change(" + place + ", 3) of " + FULL, Due.row(FULL).change(place, 3),
                place == 0 || place == 23 ? 0 : Due.INVALID);
        }
        RepeatNests x = Due.row("abc");
        Due.is("change(3, 0) of 3", x.change(3, 0), Due.INVALID);
        Due.is("change(2, 0) of 3", x.change(2, 0), 2);
        x.cut(1);
        Due.is("change(2, 0) of 2", x.change(2, 0), Due.INVALID);
        Due.same("the row", Due.rowOf(x), "ab");
    }

    /** change: "letter: 0 to 3". */
    private static void changeToALetter() {
        RepeatNests x = Due.row("b");
        int[] wrong = {-1, 4, LOW, HIGH};
        for (int letter : wrong) {
            Due.is("change(0, " + letter + ")", x.change(0, letter), Due.INVALID);
        }
        Due.is("change(0, 0)", x.change(0, 0), 1);
        Due.is("change(0, 3)", x.change(0, 3), 0);
        Due.is("letterAt(0)", x.letterAt(0), 3);
    }

    /** turn: "NOT_POSSIBLE if it is empty". */
    private static void turnOfNone() {
        RepeatNests x = new RepeatNests();
        Due.is("turn of none", x.turn(), Due.IMPOSSIBLE);
        x.append(2);
        Due.is("turn of one", x.turn(), 2);
        x.cut(1);
        Due.is("turn of none again", x.turn(), Due.IMPOSSIBLE);
    }

    /** turn: "Turns the row around. Returns its first letter then": rows of 1, 2, 3 and 24 letters. */
    private static void turnOfFewAndOfFull() {
        String[] rows = {"c", "ab", "abd", FULL};
        for (String letters : rows) {
            RepeatNests x = Due.row(letters);
            Due.is("turn of " + letters, x.turn(), letters.charAt(letters.length() - 1) - 'a');
            Due.same(letters + " turned", Due.rowOf(x), new StringBuilder(letters).reverse().toString());
        }
    }

    /** letterAt: "INVALID_ARGUMENT if place is negative". */
    private static void letterAtNegative() {
        int[] wrong = {-1, -24, LOW};
        for (int place : wrong) {
            Due.is("letterAt(" + place + ")", Due.row("ab").letterAt(place), Due.INVALID);
            Due.is("letterAt(" + place + ") of none", new RepeatNests().letterAt(place), Due.INVALID);
        }
    }

    /** letterAt: "NOT_FOUND if there are not so many". */
    private static void letterAtBehindTheEnd() {
        RepeatNests full = Due.row(FULL);
        Due.is("letterAt(23) of 24", full.letterAt(23), 0);
        Due.is("letterAt(24) of 24", full.letterAt(24), Due.NONE);
        Due.is("letterAt of the highest number", full.letterAt(HIGH), Due.NONE);
        full.cut(2);
        Due.is("letterAt(21) behind cut", full.letterAt(21), 1);
        Due.is("letterAt(22) behind cut", full.letterAt(22), Due.NONE);
        Due.is("letterAt(0) of none", new RepeatNests().letterAt(0), Due.NONE);
    }

    // ---- parts

    private static void refused(RepeatNests x, int from, int to) {
        String part = " of " + from + " to " + to + " in '" + Due.rowOf(x) + "'";
        Due.is("unlike" + part, x.unlike(from, to, 1), Due.INVALID);
        Due.is("period" + part, x.period(from, to), Due.INVALID);
        for (int what = 0; what <= 7; what++) {
            Due.is("cheapest " + what + part, x.cheapest(from, to, what), Due.INVALID);
        }
        Due.is("descriptions" + part, x.descriptions(from, to), Due.INVALID);
    }

    private static void answered(RepeatNests x, int from, int to) {
        String part = " of " + from + " to " + to + " in '" + Due.rowOf(x) + "'";
        Due.holds("unlike" + part, x.unlike(from, to, 1) >= 0);
        Due.holds("period" + part, x.period(from, to) >= 1);
        for (int what = 0; what <= 7; what++) {
            Due.holds("cheapest " + what + part, x.cheapest(from, to, what) >= 0);
        }
        Due.holds("descriptions" + part, x.descriptions(from, to) >= 1);
    }

    /** "the letters from the first place on, up to the one ahead of the second place". */
    private static void partEndsAheadOfTheSecondPlace() {
        RepeatNests x = Due.row("baaab");
        Due.is("unlike(1, 4, 1)", x.unlike(1, 4, 1), 0);
        Due.is("unlike(1, 5, 1)", x.unlike(1, 5, 1), 1);
        Due.is("unlike(0, 4, 1)", x.unlike(0, 4, 1), 1);
        Due.is("period(1, 4)", x.period(1, 4), 1);
        Due.is("period(1, 5)", x.period(1, 5), 4);
        Due.is("period(0, 4)", x.period(0, 4), 4);
        Due.is("price of 1 to 4, as 3(a)", x.cheapest(1, 4, 0), 5);
        Due.is("price of 1 to 5, as 3(a)b", x.cheapest(1, 5, 0), 7);
        Due.is("letters of the first item of 0 to 4", x.cheapest(0, 4, 6), 1);
        Due.is("descriptions of 1 to 3: aa, 2(a)", x.descriptions(1, 3), 2);
        Due.is("descriptions of 4 to 5: b", x.descriptions(4, 5), 1);
    }

    /** "A part has to have a letter". */
    private static void partHasALetter() {
        RepeatNests x = Due.row("abba");
        for (int place = 0; place <= 4; place++) {
            refused(x, place, place);
        }
        refused(x, 1, 0);
        refused(x, 4, 0);
        refused(x, 3, 2);
        refused(x, HIGH, LOW);
        for (int place = 0; place <= 3; place++) {
            answered(x, place, place + 1);
        }
    }

    /** "and to be in the row, otherwise this is INVALID_ARGUMENT". */
    private static void partIsInTheRow() {
        RepeatNests x = Due.row("abba");
        refused(x, -1, 4);
        refused(x, 0, 5);
        refused(x, 3, 5);
        refused(x, 4, 5);
        refused(x, -1, 5);
        refused(x, 0, 24);
        refused(x, LOW, 4);
        refused(x, 0, HIGH);
        refused(x, LOW, HIGH);
        answered(x, 0, 4);
        RepeatNests full = Due.row(FULL);
        refused(full, 0, 25);
        refused(full, -1, 24);
        refused(full, 24, 25);
        answered(full, 0, 24);
        answered(full, 23, 24);
    }

    /** "A part has to have a letter, and to be in the row": no part is in an empty one. */
    private static void noPartInAnEmptyRow() {
        RepeatNests x = new RepeatNests();
        refused(x, 0, 0);
        refused(x, 0, 1);
        refused(x, -1, 0);
        refused(x, 0, 24);
    }

    /** "A part has to ... be in the row": what is cut away is not in it, what is undone is. */
    private static void noPartBehindACut() {
        RepeatNests x = Due.row(FULL);
        answered(x, 20, 24);
        x.cut(2);
        refused(x, 20, 24);
        refused(x, 0, 23);
        answered(x, 0, 22);
        x.undo();
        answered(x, 20, 24);
    }

    // ---- periods and runs

    /** unlike: "period: 1 to 24". */
    private static void unlikePeriodFrom1To24() {
        RepeatNests x = Due.row("ab");
        int[] wrong = {0, -1, 25, LOW, HIGH};
        for (int period : wrong) {
            Due.is("unlike(0, 2, " + period + ")", x.unlike(0, 2, period), Due.INVALID);
            Due.is("unlike(0, 24, " + period + ") of 24", Due.row(FULL).unlike(0, 24, period), Due.INVALID);
        }
        Due.is("unlike(0, 2, 1)", x.unlike(0, 2, 1), 1);
        Due.is("unlike(0, 2, 24)", x.unlike(0, 2, 24), 0);
        Due.is("unlike(1, 2, 24)", x.unlike(1, 2, 24), 0);
    }

    /** unlike: "not the same as the one that is so many places ahead of them": no letter has one so far ahead. */
    private static void unlikeOfAsManyAsThePart() {
        RepeatNests x = Due.row("abcd");
        Due.is("unlike(0, 4, 3)", x.unlike(0, 4, 3), 1);
        Due.is("unlike(0, 4, 4)", x.unlike(0, 4, 4), 0);
        Due.is("unlike(0, 4, 5)", x.unlike(0, 4, 5), 0);
        RepeatNests full = Due.row("abcdabcdabcdabcdabcdabcd");
        Due.is("unlike(0, 24, 23)", full.unlike(0, 24, 23), 1);
        Due.is("unlike(0, 24, 24)", full.unlike(0, 24, 24), 0);
    }

    /** unlike: "so many places ahead of them, in the part". */
    private static void unlikeInThePart() {
        RepeatNests x = Due.row("abcdaa");
        Due.is("unlike(0, 6, 4)", x.unlike(0, 6, 4), 1);
        Due.is("unlike(1, 6, 4)", x.unlike(1, 6, 4), 1);
        Due.is("unlike(2, 6, 4), though b stands ahead of the part", x.unlike(2, 6, 4), 0);
        Due.is("unlike(1, 5, 4)", x.unlike(1, 5, 4), 0);
    }

    /** unlike: "Counts the letters": as many as there can be. */
    private static void unlikeOfAll() {
        Due.is("unlike(0, 24, 1)", Due.row(FULL).unlike(0, 24, 1), 23);
        Due.is("unlike(0, 24, 4), but for the last letter", Due.row(FULL).unlike(0, 24, 4), 1);
        Due.is("unlike of like ones", Due.row("aaaaaaaaaaaaaaaaaaaaaaaa").unlike(0, 24, 1), 0);
    }

    /** period: "at most the length of the part": that of one letter is 1. */
    private static void periodOfALetter() {
        RepeatNests x = Due.row(FULL);
        for (int place = 0; place < 24; place++) {
            Due.is("period of the letter at " + place, x.period(place, place + 1), 1);
        }
    }

    /** period: "Returns the period, at most the length of the part". */
    private static void periodAtMostTheLength() {
        Due.is("period of ab", Due.row("ab").period(0, 2), 2);
        Due.is("period of abcd", Due.row("abcd").period(0, 4), 4);
        Due.is("period of abca", Due.row("abca").period(0, 4), 3);
        Due.is("period of 23 a and b", Due.row("aaaaaaaaaaaaaaaaaaaaaaab").period(0, 24), 24);
        Due.is("period of b, 22 a and b", Due.row("baaaaaaaaaaaaaaaaaaaaaab").period(0, 24), 23);
    }

    /** period: "the least number for which unlike() is 0". */
    private static void periodIsTheLeast() {
        Due.is("period of 24 a", Due.row("aaaaaaaaaaaaaaaaaaaaaaaa").period(0, 24), 1);
        Due.is("period of ababab, not 4", Due.row("ababab").period(0, 6), 2);
        Due.is("period of aabaa, not 4", Due.row("aabaa").period(0, 5), 3);
        Due.is("period of aabab, as unlike is 1 for 2", Due.row("aabab").period(0, 5), 5);
    }

    /** runOf: "a part whose least period is at most half of its length". */
    private static void runPeriodAtMostHalf() {
        Due.same("runs of aa, just half", Due.runsOf(Due.row("aa")), "0-2:1");
        Due.same("runs of abab, just half", Due.runsOf(Due.row("abab")), "0-4:2");
        Due.same("runs of aba, above half", Due.runsOf(Due.row("aba")), "");
        Due.same("runs of abcab, above half", Due.runsOf(Due.row("abcab")), "");
        Due.same("runs of abcabc, just half", Due.runsOf(Due.row("abcabc")), "0-6:3");
        Due.same("runs of ababa, below half", Due.runsOf(Due.row("ababa")), "0-5:2");
        Due.same("runs of two times 12 letters", Due.runsOf(Due.row("acbcdcbcadcbacbcdcbcadcb")), "0-24:12");
        Due.same("runs with the last letter another one", Due.runsOf(Due.row("acbcdcbcadcbacbcdcbcadca")), "");
    }

    /** runOf: "cannot be made longer, at its beginning or its end, with the same least period". */
    private static void runNotLongerAtItsEnds() {
        Due.same("runs of caaac", Due.runsOf(Due.row("caaac")), "1-4:1");
        Due.same("runs of aaab", Due.runsOf(Due.row("aaab")), "0-3:1");
        Due.same("runs of baaa", Due.runsOf(Due.row("baaa")), "1-4:1");
        Due.same("runs of cababad", Due.runsOf(Due.row("cababad")), "1-6:2");
        Due.same("runs of aabab, the first a has another period", Due.runsOf(Due.row("aabab")), "1-5:2 0-2:1");
        Due.same("runs of babaa, the last a has another period", Due.runsOf(Due.row("babaa")), "0-4:2 3-5:1");
    }

    /** runOf: runs in one another and over one another, each by its own least period. */
    private static void runsMayOverlap() {
        Due.same("runs of aabaab", Due.runsOf(Due.row("aabaab")), "0-6:3 0-2:1 3-5:1");
        Due.same("runs of abaababa", Due.runsOf(Due.row("abaababa")), "0-6:3 3-8:2 2-4:1");
    }

    /** runOf: "cannot be made longer" where the row begins or ends. */
    private static void runsOfTheWholeRow() {
        Due.same("runs of 24 a", Due.runsOf(Due.row("aaaaaaaaaaaaaaaaaaaaaaaa")), "0-24:1");
        Due.same("runs of 12 ab", Due.runsOf(Due.row("abababababababababababab")), "0-24:2");
        Due.same("runs of pairs", Due.runsOf(Due.row("aabbaabbaabbaabbaabbaabb")),
            "0-24:4 0-2:1 2-4:1 4-6:1 6-8:1 8-10:1 10-12:1 12-14:1 14-16:1 16-18:1 18-20:1 20-22:1 22-24:1");
    }

    /** runOf: "Runs are in order: the longest first, of several that with the lowest first place". */
    private static void runsInOrder() {
        Due.same("runs of aabbb", Due.runsOf(Due.row("aabbb")), "2-5:1 0-2:1");
        Due.same("runs of bbaacc", Due.runsOf(Due.row("bbaacc")), "0-2:1 2-4:1 4-6:1");
        Due.same("runs of aaaacdcd, the period does not order", Due.runsOf(Due.row("aaaacdcd")), "0-4:1 4-8:2");
        Due.same("runs of cdcdaaaa, the period does not order", Due.runsOf(Due.row("cdcdaaaa")), "0-4:2 4-8:1");
    }

    /** runOf: "NOT_FOUND if there are not so many"; count(1): of rows that have none. */
    private static void runsOfNoneAndOfOne() {
        String[] rows = {"", "a", "ab", "abcd"};
        for (String letters : rows) {
            RepeatNests x = Due.row(letters);
            Due.is("number of runs of '" + letters + "'", x.count(1), 0);
            for (int what = 0; what <= 2; what++) {
                Due.is("runOf(0, " + what + ") of '" + letters + "'", x.runOf(0, what), Due.NONE);
            }
        }
    }

    /** runOf: "INVALID_ARGUMENT if an argument is out of range or negative". */
    private static void runIndexNegative() {
        RepeatNests x = Due.row("aabb");
        Due.is("runOf(-1, 0)", x.runOf(-1, 0), Due.INVALID);
        Due.is("runOf(lowest, 2)", x.runOf(LOW, 2), Due.INVALID);
        int[] wrong = {-1, 3, LOW, HIGH};
        for (int what : wrong) {
            Due.is("runOf(0, " + what + ")", x.runOf(0, what), Due.INVALID);
            Due.is("runOf(2, " + what + ")", x.runOf(2, what), Due.INVALID);
        }
        Due.is("runOf(-1, 0) of none", new RepeatNests().runOf(-1, 0), Due.INVALID);
    }

    /** runOf: "NOT_FOUND if there are not so many": behind the last one. */
    private static void runIndexBehindTheLast() {
        RepeatNests x = Due.row("aabb");
        Due.is("runOf(1, 0)", x.runOf(1, 0), 2);
        Due.is("runOf(2, 0)", x.runOf(2, 0), Due.NONE);
        Due.is("runOf(24, 1)", x.runOf(24, 1), Due.NONE);
        Due.is("runOf(highest, 2)", x.runOf(HIGH, 2), Due.NONE);
        x.cut(1);
        Due.is("runOf(1, 0) behind a cut", x.runOf(1, 0), Due.NONE);
        x.undo();
        Due.is("runOf(1, 0) behind undo", x.runOf(1, 0), 2);
    }

    /** runOf: "what: 0: its first place; 1: the place behind it; 2: its least period". */
    private static void runNumbers() {
        RepeatNests x = Due.row("cabab");
        Due.is("first place", x.runOf(0, 0), 1);
        Due.is("the place behind it", x.runOf(0, 1), 5);
        Due.is("its least period", x.runOf(0, 2), 2);
    }

    // ---- settings

    /** "The settings are (in parentheses: range; first value)": the first values. */
    private static void firstValues() {
        for (int what = 0; what <= 4; what++) {
            Due.is("first value of setting " + what, new RepeatNests().count(20 + what), FIRST[what]);
            Due.is("set tells the first value of " + what, new RepeatNests().set(what, LEAST[what]), FIRST[what]);
        }
    }

    /** set: "value: a value in its range". */
    private static void valuesInTheirRanges() {
        for (int what = 0; what <= 4; what++) {
            RepeatNests x = new RepeatNests();
            int[] wrong = {LEAST[what] - 1, MOST[what] + 1, -1, 21, LOW, HIGH};
            for (int value : wrong) {
                Due.is("set(" + what + ", " + value + ")", x.set(what, value), Due.INVALID);
            }
            int before = FIRST[what];
            for (int value = LEAST[what]; value <= MOST[what]; value++) {
                Due.is("set(" + what + ", " + value + ")", x.set(what, value), before);
                Due.is("count of " + what + " behind that", x.count(20 + what), value);
                before = value;
            }
        }
    }

    /** set: "what: 0 to 4". */
    private static void noSuchSetting() {
        int[] wrong = {-1, 5, 20, LOW, HIGH};
        for (int what : wrong) {
            for (int value = 0; value <= 4; value++) {
                Due.is("set(" + what + ", " + value + ")", new RepeatNests().set(what, value), Due.INVALID);
            }
        }
    }

    /** count: "INVALID_ARGUMENT if what is out of range". */
    private static void noSuchCount() {
        int[] wrong = {-1, 4, 5, 10, 19, 25, LOW, LOW + 20, HIGH};
        for (int what : wrong) {
            Due.is("count(" + what + ")", Due.row(FULL).count(what), Due.INVALID);
        }
        int[] right = {0, 1, 2, 3, 20, 21, 22, 23, 24};
        int[] due = {3, 1, 3, 2, 2, 3, 3, 2, 3};
        RepeatNests x = Due.row("aab");
        Due.type(x, "ab");
        for (int index = 0; index < right.length; index++) {
            Due.is("count(" + right[index] + ")", x.count(right[index]), due[index]);
        }
    }

    // ---- changes

    /** "The changes are the calls of append, cut, change, turn, set and adopt that return no error." */
    private static void changesAreRecorded() {
        String[] calls = {"append", "cut", "change", "turn", "set", "adopt"};
        for (int call = 0; call < calls.length; call++) {
            RepeatNests x = Due.row("ab");
            Due.type(x, "c");
            doChange(x, call);
            Due.is("states behind " + calls[call], x.count(2), 3);
            Due.is("undo of " + calls[call], x.undo(), 2);
            Due.same("the row behind undo of " + calls[call], Due.rowOf(x), "ab");
            Due.is("the setting behind undo of " + calls[call], x.count(20), 2);
        }
    }

    private static void doChange(RepeatNests x, int call) {
        switch (call) {
            case 0 -> Due.is("append", x.append(3), 3);
            case 1 -> Due.is("cut", x.cut(1), 1);
            case 2 -> Due.is("change", x.change(0, 3), 0);
            case 3 -> Due.is("turn", x.turn(), 1);
            case 4 -> Due.is("set", x.set(0, 9), 2);
            default -> Due.is("adopt", x.adopt(), 1);
        }
    }

    /** "The changes are the calls ... that return no error", also if they leave all as it was. */
    private static void changesToTheSameAreRecorded() {
        RepeatNests x = Due.row("a");
        Due.is("change to the same letter", x.change(0, 0), 0);
        Due.is("states behind that", x.count(2), 2);
        Due.is("set to the same value", x.set(1, 3), 3);
        Due.is("states behind that", x.count(2), 3);
        Due.is("turn of one letter", x.turn(), 0);
        Due.is("states behind that", x.count(2), 4);
        RepeatNests other = Due.row("a");
        Due.type(other, "a");
        Due.is("adopt of the same row", other.adopt(), 1);
        Due.is("states behind that", other.count(2), 2);
    }

    /** "The changes are the calls of append, cut, change, turn, set and adopt": no others. */
    private static void othersAreNoChanges() {
        RepeatNests x = Due.row("ab");
        x.type('a');
        x.clearText();
        x.type('b');
        x.letterAt(0);
        x.unlike(0, 2, 1);
        x.period(0, 2);
        x.runOf(0, 0);
        x.cheapest(0, 2, 0);
        x.textAt(0);
        x.descriptions(0, 2);
        x.would(0, 1);
        x.bestChange(0);
        x.fault(0);
        x.told(0);
        x.count(2);
        Due.is("states behind what is no change", x.count(2), 2);
        Due.is("undo", x.undo(), 1);
        Due.same("the row behind undo", Due.rowOf(x), "a");
    }

    /** "The changes are the calls ... that return no error": a refused one is none. */
    private static void refusedOnesAreNoChanges() {
        RepeatNests x = Due.row(FULL);
        x.undo();
        x.undo();
        x.undo();
        Due.is("states", x.count(2), 1);
        refuseAll(x);
        Due.is("states behind refused calls", x.count(2), 1);
        Due.is("undo", x.undo(), 0);
        Due.same("the row behind undo", Due.rowOf(x), FULL.substring(0, 20));
    }

    /** Refused calls of a row of 21 letters and of an empty text. */
    private static void refuseAll(RepeatNests x) {
        Due.is("append(4)", x.append(4), Due.INVALID);
        Due.is("cut(0)", x.cut(0), Due.INVALID);
        Due.is("cut(22)", x.cut(22), Due.IMPOSSIBLE);
        Due.is("change(21, 0)", x.change(21, 0), Due.INVALID);
        Due.is("change(0, 4)", x.change(0, 4), Due.INVALID);
        Due.is("set(0, 0)", x.set(0, 0), Due.INVALID);
        Due.is("set(5, 0)", x.set(5, 0), Due.INVALID);
        Due.is("adopt", x.adopt(), Due.IMPOSSIBLE);
    }

    /** "A history of at most 4 states is kept." */
    private static void atMost4States() {
        RepeatNests x = new RepeatNests();
        for (int many = 1; many <= 24; many++) {
            x.append(0);
            Due.is("states behind " + many + " changes", x.count(2), Math.min(many, 4));
        }
        for (int left = 3; left >= 0; left--) {
            Due.is("undo", x.undo(), left);
        }
        Due.is("a fifth undo", x.undo(), Due.IMPOSSIBLE);
        Due.is("letters behind that", x.count(0), 20);
    }

    /** "if there are 5 states then, the oldest one is dropped". */
    private static void oldestStateIsDropped() {
        RepeatNests four = Due.row("abcd");
        undoAll(four, 4);
        Due.same("behind 4 changes all is undone", Due.rowOf(four), "");
        RepeatNests five = Due.row("abcda");
        undoAll(five, 4);
        Due.same("behind 5 changes all but the oldest one are undone", Due.rowOf(five), "a");
        RepeatNests nine = Due.row("abcdabcda");
        undoAll(nine, 4);
        Due.same("behind 9 changes the latest 4 are undone", Due.rowOf(nine), "abcda");
    }

    private static void undoAll(RepeatNests x, int states) {
        for (int left = states - 1; left >= 0; left--) {
            Due.is("undo", x.undo(), left);
        }
        Due.is("undo of none", x.undo(), Due.IMPOSSIBLE);
    }

    /** "each change records everything before it": each letter and each setting. */
    private static void everythingIsRecorded() {
        for (int what = 0; what <= 4; what++) {
            RepeatNests x = new RepeatNests();
            x.set(what, MOST[what]);
            x.set(what, LEAST[what]);
            x.undo();
            Due.is("setting " + what + " behind undo", x.count(20 + what), MOST[what]);
            x.undo();
            Due.is("setting " + what + " behind undo of all", x.count(20 + what), FIRST[what]);
        }
        RepeatNests x = Due.row(FULL);
        x.cut(24);
        x.append(3);
        x.undo();
        Due.same("the empty row again", Due.rowOf(x), "");
        x.undo();
        Due.same("what was cut, and written over, is there again", Due.rowOf(x), FULL);
        x.turn();
        x.change(23, 3);
        x.undo();
        x.undo();
        Due.same("a full row behind undo of turn and change", Due.rowOf(x), FULL);
    }

    /** "each change records everything before it but the text". */
    private static void textIsNotRecorded() {
        RepeatNests x = Due.typed("2(a)");
        x.append(1);
        Due.type(x, "b");
        x.undo();
        Due.is("the text typed behind the change stays", x.count(3), 5);
        Due.same("and tells as before", Due.toldOf(x), "aab");
        x.append(1);
        x.clearText();
        x.undo();
        Due.is("the text cleared behind the change stays so", x.count(3), 0);
        Due.same("and has the fault of an empty one", Due.faultOf(x), "0 1");
    }

    /** undo: "NOT_POSSIBLE if it is empty". */
    private static void undoOfNone() {
        RepeatNests x = new RepeatNests();
        Due.is("undo of a new object", x.undo(), Due.IMPOSSIBLE);
        x.append(5);
        x.type('a');
        Due.is("undo behind a refused change and a character", x.undo(), Due.IMPOSSIBLE);
        x.adopt();
        Due.is("undo of one", x.undo(), 0);
        Due.is("undo behind that", x.undo(), Due.IMPOSSIBLE);
        Due.is("letters behind that", x.count(0), 0);
    }

    /** undo: "Returns the number of states that are left in the history". */
    private static void undoTellsWhatIsLeft() {
        RepeatNests x = Due.row("abcdab");
        for (int left = 3; left >= 0; left--) {
            Due.is("undo", x.undo(), left);
            Due.is("states left", x.count(2), left);
            Due.is("letters", x.count(0), 2 + left);
        }
    }

    /** undo: "Restores the latest state of the history, which is removed from it": it is itself no change. */
    private static void undoIsNoChange() {
        RepeatNests x = Due.row("ab");
        x.undo();
        Due.is("states behind undo", x.count(2), 1);
        x.undo();
        Due.same("undo again does not bring a letter back", Due.rowOf(x), "");
    }

    /** A history that was full, undone in part and filled again. */
    private static void changeBehindUndo() {
        RepeatNests x = Due.row("abcdab");
        x.undo();
        x.undo();
        x.append(0);
        x.turn();
        Due.is("states", x.count(2), 4);
        x.set(0, 5);
        Due.is("states, the oldest one dropped", x.count(2), 4);
        x.undo();
        Due.same("undo of set", Due.rowOf(x), "adcba");
        x.undo();
        Due.same("undo of turn", Due.rowOf(x), "abcda");
        x.undo();
        Due.same("undo of append", Due.rowOf(x), "abcd");
        Due.is("undo of an earlier append", x.undo(), 0);
        Due.same("the row then", Due.rowOf(x), "abc");
    }

    // ---- errors

    /** "The constants: INVALID_ARGUMENT = -1000001 ... NOT_FOUND = -1000004." */
    private static void constants() {
        Due.is("INVALID_ARGUMENT", RepeatNests.INVALID_ARGUMENT, -1000001);
        Due.is("NOT_POSSIBLE", RepeatNests.NOT_POSSIBLE, -1000002);
        Due.is("LIMIT_REACHED", RepeatNests.LIMIT_REACHED, -1000003);
        Due.is("NOT_FOUND", RepeatNests.NOT_FOUND, -1000004);
    }

    /** "INVALID_ARGUMENT is returned rather than NOT_POSSIBLE". */
    private static void argumentAheadOfState() {
        RepeatNests x = new RepeatNests();
        Due.is("cut(0) of none", x.cut(0), Due.INVALID);
        Due.is("cut(25) of none", x.cut(25), Due.INVALID);
        Due.is("told(6) of the empty text", x.told(6), Due.INVALID);
        Due.is("told(99) of the empty text", x.told(99), Due.INVALID);
        Due.is("told(124) of the empty text", x.told(124), Due.INVALID);
        Due.is("told(-1) of the empty text", x.told(-1), Due.INVALID);
    }

    /** INVALID_ARGUMENT rather than LIMIT_REACHED, which is returned rather than nothing. */
    private static void argumentAheadOfLimit() {
        RepeatNests x = Due.row(FULL);
        Due.is("append(4) to 24", x.append(4), Due.INVALID);
        Due.is("append(-1) to 24", x.append(-1), Due.INVALID);
        for (int many = 0; many < 60; many++) {
            x.type('a');
        }
        Due.is("type(31) behind 60", x.type(31), Due.INVALID);
        Due.is("type(127) behind 60", x.type(127), Due.INVALID);
        Due.is("type(32) behind 60", x.type(32), Due.LIMIT);
    }

    /** INVALID_ARGUMENT rather than NOT_FOUND. */
    private static void argumentAheadOfNotFound() {
        RepeatNests x = new RepeatNests();
        Due.is("letterAt(-1) of none", x.letterAt(-1), Due.INVALID);
        Due.is("textAt(-1) of none", x.textAt(-1), Due.INVALID);
        Due.is("runOf(0, 3) of none", x.runOf(0, 3), Due.INVALID);
        Due.is("runOf(-1, 0) of none", x.runOf(-1, 0), Due.INVALID);
        Due.is("bestChange(3) of none", x.bestChange(3), Due.INVALID);
        Due.is("bestChange(-1) of none", x.bestChange(-1), Due.INVALID);
        x.type('a');
        Due.is("fault(2) without a fault", x.fault(2), Due.INVALID);
        Due.is("fault(-1) without a fault", x.fault(-1), Due.INVALID);
        Due.is("told(124) of one letter", x.told(124), Due.INVALID);
    }

    /** "NOT_POSSIBLE rather than LIMIT_REACHED, and LIMIT_REACHED rather than NOT_FOUND". */
    private static void stateAheadOfNotFound() {
        RepeatNests x = Due.typed("a(");
        for (int what = 100; what <= 123; what++) {
            Due.is("told(" + what + ") with a fault", x.told(what), Due.IMPOSSIBLE);
        }
    }

    /** "A call that returns an error changes nothing." */
    private static void errorsChangeNothing() {
        RepeatNests x = Due.row(FULL.substring(0, 21), 3, 4, 5, 6, 1);
        String before = Due.seen(x);
        refuseAll(x);
        refused(x, 5, 5);
        x.would(21, 0);
        x.bestChange(3);
        x.type(127);
        x.told(0);
        x.fault(2);
        x.count(25);
        Due.same("all that can be asked, behind refused calls", Due.seen(x), before);
        RepeatNests full = Due.row(FULL);
        for (int many = 0; many < 60; many++) {
            full.type('a');
        }
        before = Due.seen(full);
        Due.is("append to 24", full.append(1), Due.LIMIT);
        Due.is("type behind 60", full.type('('), Due.LIMIT);
        Due.is("adopt with a fault", full.adopt(), Due.IMPOSSIBLE);
        Due.same("all that can be asked of what is full", Due.seen(full), before);
        RepeatNests none = new RepeatNests();
        before = Due.seen(none);
        Due.is("turn of none", none.turn(), Due.IMPOSSIBLE);
        Due.is("undo of none", none.undo(), Due.IMPOSSIBLE);
        Due.same("all that can be asked of what is empty", Due.seen(none), before);
    }

    /** "A call that returns an error changes nothing": nor what is kept in the history. */
    private static void errorsLeaveTheHistory() {
        RepeatNests x = Due.row(FULL);
        for (int many = 0; many < 6; many++) {
            Due.is("append to 24", x.append(1), Due.LIMIT);
            Due.is("cut(25)", x.cut(25), Due.INVALID);
            Due.is("adopt", x.adopt(), Due.IMPOSSIBLE);
        }
        for (int letters = 23; letters >= 20; letters--) {
            Due.is("undo", x.undo(), letters - 20);
            Due.same("the row then", Due.rowOf(x), FULL.substring(0, letters));
        }
    }
}
