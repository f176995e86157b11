import java.util.List;

/**
 * Each sentence of the document that names a boundary case of descriptions, of the cheapest one, its text, how
 * many there are, and what a change of a letter saves, has a test of its own here; the sentence stands above it.
 */
public final class DescriptionBoundaryTest {
    private static final int LOW = Integer.MIN_VALUE;
    private static final int HIGH = Integer.MAX_VALUE;
    private static final String A_24 = "aaaaaaaaaaaaaaaaaaaaaaaa";
    private static final String NO_RUNS_24 = "abcacbabcbacabcacbacabcb";
    /** A repeat of two, one correction each, within one another: four levels. */
    private static final String NESTED = "abacabadabacabab";

    private DescriptionBoundaryTest() {
    }

    public static void main(String[] args) {
        descriptions();
        cheapestOnes();
        ties();
        texts();
        numbers();
        otherLetters();
        Due.end();
    }

    private static void descriptions() {
        timesFrom2On();
        timesUpTo24();
        noCorrectionInTheFirstCopy();
        correctionsInEachCopyBehind();
        atMostAsManyCorrections();
        mostCorrectionsOfEachRepeat();
        depthAtMostTheSetting();
        noRepeatAtDepth0();
        depthOfTheDeepestItem();
        blocksOnce();
    }

    private static void cheapestOnes() {
        cheapestOfWhat();
        cheapestOfALetter();
        cheapestOf24();
        cheapestOfAPartAlone();
        cheapestByTheLeastPrices();
        cheapestByTheGreatestPrices();
        cheapestBehindChanges();
        cheapestOfPartsInTurn();
        firstItemOfALetter();
    }

    private static void ties() {
        firstItemWithMostLetters();
        firstItemWithTheShortestBlock();
        blockComparedLikewise();
        blockCostsLeastFirst();
        nextItemsComparedLikewise();
        costAheadOfAll();
    }

    private static void texts() {
        textIndexNegative();
        textIndexBehindTheEnd();
        textOfNone();
        textOfOne();
        textsOfTimesAndPlaces();
        textsOfAllTimesAndPlaces();
        textLengthIsThatOfTheText();
        textLongerThan60();
        textOfTheRowNotOfAPart();
    }

    private static void numbers() {
        descriptionsOfALetter();
        descriptionsByTheCorrections();
        descriptionsByTheDepth();
        descriptionsOf24();
        descriptionsBehindChanges();
    }

    private static void otherLetters() {
        wouldOfAPlaceOfTheRow();
        wouldOfALetter();
        wouldWithTheSameLetter();
        wouldChangesNothing();
        wouldOfOneAndOf24();
        bestChangeOfWhat();
        bestChangeOfNoneAndOfOne();
        bestChangeMustCostLess();
        bestChangeAtTheLowestPlace();
        bestChangeToTheLowestLetter();
        bestChangeAtTheEnds();
        bestChangeBehindChanges();
    }

    /** The text of the cheapest description of a row by settings, and what it costs. */
    private static void textIs(String row, int[] settings, String text, int price) {
        RepeatNests x = Due.row(row, settings);
        Due.same("text of " + row, Due.textOf(x), text);
        Due.is("price of " + row, x.cheapest(0, row.length(), 0), price);
    }

    private static int[] by(int... settings) {
        return settings;
    }

    private static long number(String row, int... settings) {
        return Due.row(row, settings).descriptions(0, row.length());
    }

    // ---- descriptions

    /** "a number of times (2 or more)". */
    private static void timesFrom2On() {
        Due.is("descriptions of a: not 1(a)", number("a", 2, 3, 3, 6, 4), 1);
        Due.is("descriptions of aa: aa, 2(a)", number("aa", 2, 3, 3, 6, 4), 2);
        textIs("aa", by(9, 0, 0, 0, 1), "2(a)", 9);
        textIs("a", by(9, 0, 0, 0, 1), "a", 9);
        // Not 2(a)2(1(ba)): the times of a repeat are never 1, also behind another repeat
        textIs("aababa", by(2, 1, 3, 1, 2), "2(a)2(ba)", 8);
        textIs("bbababb", by(2, 1, 3, 1, 3), "2(b)2(ab)b", 10);
    }

    /** "a number of times": as many as a row has letters. */
    private static void timesUpTo24() {
        textIs(A_24, by(2, 3, 3, 2, 3), "24(a)", 5);
        Due.is("times of its first item", Due.row(A_24).cheapest(0, 24, 7), 24);
        textIs("abababababababababababab", by(2, 3, 3, 2, 3), "12(ab)", 7);
    }

    /** "The corrections of a repeat are all in copies behind the first one." */
    private static void noCorrectionInTheFirstCopy() {
        // With a correction at place 0 it would be 4(a) and cost 10
        textIs("baaa", by(9, 0, 1, 1, 1), "b3(a)", 18);
        textIs("aaab", by(9, 0, 1, 1, 1), "4(a)[3,b]", 10);
        textIs("abaa", by(9, 0, 1, 1, 1), "4(a)[1,b]", 10);
        Due.is("descriptions of ba: ba, 2(b)[1,a]", number("ba", 9, 0, 1, 6, 4), 2);
    }

    /** "in copies behind the first one": in the second, in the last, in several. */
    private static void correctionsInEachCopyBehind() {
        textIs("abcadcabcabc", by(9, 1, 1, 1, 1), "4(abc)[4,d]", 29);
        textIs("abcabcabcabd", by(9, 1, 1, 1, 1), "4(abc)[11,d]", 29);
        textIs("abcabddbcabc", by(9, 1, 1, 2, 1), "4(abc)[5,d][6,d]", 30);
    }

    /** "A repeat has at most as many corrections as setting 3 tells." */
    private static void atMostAsManyCorrections() {
        for (int many = 1; many <= 6; many++) {
            String row = "a" + "b".repeat(many);
            RepeatNests x = Due.row(row, 9, 0, 0, many, 1);
            Due.is("price of " + row + " by " + many, x.cheapest(0, many + 1, 0), 9);
            Due.is("corrections of " + row + " by " + many, x.cheapest(0, many + 1, 4), many);
            x.set(3, many - 1);
            Due.is("price of " + row + " by " + (many - 1), x.cheapest(0, many + 1, 0), 18);
        }
        Due.is("price of abbbbbbb by 6", Due.row("abbbbbbb", 9, 0, 0, 6, 1).cheapest(0, 8, 0), 18);
        textIs("ab", by(9, 0, 0, 0, 4), "ab", 18);
    }

    /** "A repeat has at most as many corrections": each one for itself, not all together. */
    private static void mostCorrectionsOfEachRepeat() {
        textIs("abac", by(9, 0, 0, 1, 4), "2(2(a)[1,b])[3,c]", 9);
        textIs("abcd", by(9, 0, 0, 1, 1), "2(a)[1,b]2(c)[1,d]", 18);
        Due.is("corrections in all", Due.row("abac", 9, 0, 0, 1, 4).cheapest(0, 4, 4), 2);
    }

    /** "a description has a depth of at most setting 4". */
    private static void depthAtMostTheSetting() {
        textIs(NESTED, by(9, 1, 1, 1, 4), "2(2(2(2(a)[1,b])[3,c])[7,d])[15,b]", 17);
        textIs(NESTED, by(9, 1, 1, 1, 3), "2(2(2(ab)[3,c])[7,d])[15,b]", 24);
        for (int depth = 0; depth <= 4; depth++) {
            Due.is("depth at most " + depth, Due.row(NESTED, 9, 1, 1, 1, depth).cheapest(0, 16, 2), depth);
        }
    }

    /** "a description has a depth of at most setting 4 ... (0 to 4)": "The depth of a letter is 0". */
    private static void noRepeatAtDepth0() {
        textIs(A_24, by(9, 0, 0, 6, 0), A_24, 216);
        Due.is("descriptions at depth 0", number(A_24, 9, 0, 0, 6, 0), 1);
        Due.is("depth at depth 0", Due.row(A_24, 9, 0, 0, 6, 0).cheapest(0, 24, 2), 0);
        Due.is("repeats at depth 0", Due.row(A_24, 9, 0, 0, 6, 0).cheapest(0, 24, 3), 0);
        // A repeat costs as much as the letters that it would describe
        textIs("aa", by(1, 2, 0, 6, 0), "aa", 2);
        Due.is("letters of the first item at depth 0", Due.row("aa", 1, 2, 0, 6, 0).cheapest(0, 2, 6), 1);
        Due.is("times of the first item at depth 0", Due.row("aa", 1, 2, 0, 6, 0).cheapest(0, 2, 7), 1);
        textIs("aabaab", by(1, 2, 9, 0, 1), "2(aab)", 5);
    }

    /** "that of a description the greatest one of its items". */
    private static void depthOfTheDeepestItem() {
        // 2(5(a)b) has depth 2, 8(c) depth 1, d depth 0
        String deep = "aaaaabaaaaab";
        Due.is("the deepest first", Due.row(deep + "ccccccccd").cheapest(0, 21, 2), 2);
        Due.is("the deepest last", Due.row("dcccccccc" + deep).cheapest(0, 21, 2), 2);
        Due.is("no deep one", Due.row("dcccccccc" + deep).cheapest(0, 9, 2), 1);
        Due.is("a letter", Due.row("dcccccccc" + deep).cheapest(0, 1, 2), 0);
    }

    /** "its repeats in all, also those in blocks (as its text tells them, those in a block once)". */
    private static void blocksOnce() {
        RepeatNests x = Due.row(NESTED, 9, 1, 1, 1, 4);
        Due.is("repeats", x.cheapest(0, 16, 3), 4);
        Due.is("corrections", x.cheapest(0, 16, 4), 4);
        RepeatNests three = Due.row("aaabaaabaaab", 9, 1, 1, 0, 4);
        Due.same("text of three times a repeat and a letter", Due.textOf(three), "3(3(a)b)");
        Due.is("repeats of that", three.cheapest(0, 12, 3), 2);
        Due.is("items of that", three.cheapest(0, 12, 1), 1);
        Due.is("price of that", three.cheapest(0, 12, 0), 1 + 1 + 9 + 9);
    }

    // ---- the cheapest one

    /** cheapest: "what: 0 ... 7"; "INVALID_ARGUMENT if an argument is out of range". */
    private static void cheapestOfWhat() {
        RepeatNests x = Due.row("aaab");
        int[] wrong = {-1, 8, 100, LOW, HIGH};
        for (int what : wrong) {
            Due.is("cheapest(0, 4, " + what + ")", x.cheapest(0, 4, what), Due.INVALID);
        }
        // 4(a)[3,b] costs 8 as well as aaab, and 3(a)b costs 7
        int[] due = {7, 2, 1, 1, 0, 5, 3, 3};
        for (int what = 0; what <= 7; what++) {
            Due.is("cheapest(0, 4, " + what + ")", x.cheapest(0, 4, what), due[what]);
        }
    }

    /** cheapest: "of a part", that has a letter at least. */
    private static void cheapestOfALetter() {
        RepeatNests x = Due.row("abcdabcdabcdabcdabcdabcd");
        int[] due = {2, 1, 0, 0, 0, 1, 1, 1};
        for (int place = 0; place < 24; place++) {
            for (int what = 0; what <= 7; what++) {
                Due.is("cheapest of the letter at " + place, x.cheapest(place, place + 1, what), due[what]);
            }
        }
    }

    /** cheapest: "of a part", that is the whole full row. */
    private static void cheapestOf24() {
        RepeatNests x = Due.row("abcdabcdabcdabcdabcdabcd");
        int[] due = {11, 1, 1, 1, 0, 7, 24, 6};
        for (int what = 0; what <= 7; what++) {
            Due.is("cheapest(0, 24, " + what + ")", x.cheapest(0, 24, what), due[what]);
        }
        RepeatNests none = Due.row(NO_RUNS_24, 2, 20, 20, 0, 4);
        Due.is("price without a repeat", none.cheapest(0, 24, 0), 48);
        Due.is("items without a repeat", none.cheapest(0, 24, 1), 24);
    }

    /** cheapest: "of a part": the letters around it do not count. */
    private static void cheapestOfAPartAlone() {
        RepeatNests x = Due.row("aaaaaaaa");
        Due.is("price of 2 to 4", x.cheapest(2, 4, 0), 4);
        Due.is("letters of the first item of 2 to 7", x.cheapest(2, 7, 6), 5);
        Due.is("letters of the first item of 3 to 8", x.cheapest(3, 8, 6), 5);
        Due.is("length of the text of 0 to 8", x.cheapest(0, 8, 5), 4);
        Due.is("length of the text of 0 to 7", x.cheapest(0, 7, 5), 4);
    }

    /** "0 the price of a letter (1 to 9 ...), 1 of a repeat (0 to 20 ...), 2 of a correction (0 to 20 ...)". */
    private static void cheapestByTheLeastPrices() {
        textIs(A_24, by(1, 0, 0, 6, 4), "24(a)", 1);
        textIs("ab", by(1, 0, 0, 1, 4), "2(a)[1,b]", 1);
        textIs("abcd", by(1, 0, 0, 0, 4), "abcd", 4);
    }

    /** The same by the greatest prices. */
    private static void cheapestByTheGreatestPrices() {
        textIs(A_24, by(9, 20, 20, 6, 4), "24(a)", 29);
        textIs("aaa", by(9, 20, 20, 6, 4), "aaa", 27);
        textIs("aaaa", by(9, 20, 20, 6, 4), "4(a)", 29);
        textIs("aaaaaab", by(9, 20, 20, 6, 4), "6(a)b", 38);
        textIs("aabaaa", by(9, 20, 20, 6, 4), "6(a)[2,b]", 49);
        textIs("abcd", by(9, 20, 20, 6, 4), "abcd", 36);
    }

    /** What was asked once is asked again behind each kind of change. */
    private static void cheapestBehindChanges() {
        RepeatNests x = Due.row("aaaa");
        Due.is("aaaa", x.cheapest(0, 4, 0), 5);
        x.append(0);
        Due.is("aaaaa", x.cheapest(0, 5, 5), 4);
        x.change(2, 1);
        Due.is("aabaa", x.cheapest(0, 5, 0), 8);
        Due.is("aabaa, its corrections", x.cheapest(0, 5, 4), 1);
        x.set(2, 20);
        Due.is("aabaa without a correction", x.cheapest(0, 5, 0), 10);
        x.undo();
        Due.is("aabaa again", x.cheapest(0, 5, 0), 8);
        x.cut(3);
        Due.is("aa", x.cheapest(0, 2, 0), 4);
        Due.type(x, "9(b)c");
        x.adopt();
        Due.is("9(b)c", x.cheapest(0, 10, 0), 7);
        Due.is("the first item of it", x.cheapest(0, 10, 6), 9);
        x.turn();
        Due.is("the first item of c9(b)", x.cheapest(0, 10, 6), 1);
    }

    /** cheapest: "of a part": each for itself, also behind one that begins or ends at the same place. */
    private static void cheapestOfPartsInTurn() {
        RepeatNests x = Due.row("aaaaabaaaaabccc", 9, 1, 2, 1, 4);
        int[][] parts = {{0, 12}, {0, 5}, {0, 6}, {6, 12}, {5, 12}, {0, 15}, {12, 15}, {0, 12}, {5, 7}};
        String[] texts = {"2(6(a)[5,b])", "5(a)", "6(a)[5,b]", "6(a)[5,b]", "b6(a)[5,b]", "2(6(a)[5,b])3(c)", "3(c)",
            "2(6(a)[5,b])", "2(b)[1,a]"};
        for (int index = 0; index < parts.length; index++) {
            String text = texts[index];
            String part = " of " + parts[index][0] + " to " + parts[index][1];
            Due.is("length of the text" + part, x.cheapest(parts[index][0], parts[index][1], 5), text.length());
            Due.is("repeats" + part, x.cheapest(parts[index][0], parts[index][1], 3), text.split("\\(").length - 1);
            Due.is("corrections" + part, x.cheapest(parts[index][0], parts[index][1], 4), text.split("\\[").length - 1);
        }
    }

    /** cheapest: "7: the times of its first item, 1 if that is a letter". */
    private static void firstItemOfALetter() {
        RepeatNests x = Due.row("baaaaa");
        Due.is("letters of the letter", x.cheapest(0, 6, 6), 1);
        Due.is("times of the letter", x.cheapest(0, 6, 7), 1);
        Due.is("letters of the repeat", x.cheapest(1, 6, 6), 5);
        Due.is("times of the repeat", x.cheapest(1, 6, 7), 5);
        RepeatNests of = Due.row("abcabc", 9, 1, 1, 0, 4);
        Due.is("letters of 2(abc)", of.cheapest(0, 6, 6), 6);
        Due.is("times of 2(abc)", of.cheapest(0, 6, 7), 2);
    }

    // ---- of several that cost the same

    /** "of several it is the one whose first item describes most letters". */
    private static void firstItemWithMostLetters() {
        // aa, 2(a): both cost 4; at one more the repeat costs more
        textIs("aa", by(2, 2, 3, 2, 3), "2(a)", 4);
        textIs("aa", by(2, 3, 3, 2, 3), "aa", 4);
        textIs("aaa", by(2, 4, 3, 2, 3), "3(a)", 6);
        // 2(a)b2(a), aab..., 5(a)[2,b] cost 10
        textIs("aabaa", by(2, 3, 5, 2, 3), "5(a)[2,b]", 10);
        // 3(a)b and 4(a)[3,b] cost the same if a correction costs as much as a letter
        textIs("aaab", by(2, 1, 2, 2, 3), "4(a)[3,b]", 5);
        // a2(ba) costs as much as 2(ab)a, which describes most
        textIs("ababa", by(9, 1, 9, 0, 3), "2(ab)a", 28);
    }

    /** "of several of these the one whose first item has the shortest block". */
    private static void firstItemWithTheShortestBlock() {
        textIs("aaaa", by(1, 0, 0, 0, 4), "4(a)", 1);
        textIs("abababab", by(1, 0, 9, 0, 4), "4(ab)", 2);
        textIs("abab", by(2, 0, 1, 2, 1), "4(a)[1,b][3,b]", 4);
        textIs("aaaaaa", by(3, 0, 3, 6, 4), "6(a)", 3);
    }

    /** "then the block of it is compared likewise". */
    private static void blockComparedLikewise() {
        // The block ab costs as much as 2(a)[1,b], whose first item describes most
        textIs("abab", by(2, 0, 2, 1, 4), "2(2(a)[1,b])", 4);
        textIs("aabaab", by(2, 2, 9, 0, 4), "2(2(a)b)", 8);
        textIs("aabaab", by(2, 3, 9, 0, 4), "2(aab)", 9);
        textIs("baabaa", by(2, 2, 9, 0, 4), "2(b2(a))", 8);
    }

    /** "is compared likewise": in the block, too, the one that costs least is ahead of the one with a longer item. */
    private static void blockCostsLeastFirst() {
        // In the block 2(a)b costs 9 + 9 + 1, 3(a)[2,b] 9 + 1 + 20
        textIs("aabaab", by(9, 1, 20, 1, 4), "2(2(a)b)", 20);
        textIs("aabaab", by(9, 1, 8, 1, 4), "2(3(a)[2,b])", 19);
    }

    /** "and then the next items". */
    private static void nextItemsComparedLikewise() {
        textIs("caa", by(2, 2, 9, 0, 4), "c2(a)", 6);
        textIs("cabaaaa", by(1, 0, 9, 0, 4), "cab4(a)", 4);
        textIs("caaab", by(2, 1, 2, 2, 1), "c4(a)[3,b]", 7);
        textIs("aaaaaabb", by(2, 2, 9, 0, 4), "6(a)2(b)", 8);
    }

    /** "The cheapest description of a row costs least", ahead of all else. */
    private static void costAheadOfAll() {
        textIs("aabaa", by(2, 3, 6, 2, 3), "aabaa", 10);
        textIs("aaab", by(2, 1, 3, 2, 3), "3(a)b", 5);
        textIs("abab", by(2, 0, 3, 2, 1), "2(ab)", 4);
    }

    // ---- its text

    /** textAt: "INVALID_ARGUMENT if index is negative". */
    private static void textIndexNegative() {
        int[] wrong = {-1, -60, LOW};
        for (int index : wrong) {
            Due.is("textAt(" + index + ")", Due.row("ab").textAt(index), Due.INVALID);
            Due.is("textAt(" + index + ") of none", new RepeatNests().textAt(index), Due.INVALID);
        }
    }

    /** textAt: "NOT_FOUND if there are not so many". */
    private static void textIndexBehindTheEnd() {
        RepeatNests x = Due.row(A_24);
        Due.is("textAt(4)", x.textAt(4), ')');
        Due.is("textAt(5)", x.textAt(5), Due.NONE);
        Due.is("textAt(24)", x.textAt(24), Due.NONE);
        Due.is("textAt(highest)", x.textAt(HIGH), Due.NONE);
        x.set(4, 0);
        Due.is("textAt(23) at depth 0", x.textAt(23), 'a');
        Due.is("textAt(24) at depth 0", x.textAt(24), Due.NONE);
        x.cut(22);
        Due.is("textAt(1) of aa", x.textAt(1), 'a');
        Due.is("textAt(2) of aa", x.textAt(2), Due.NONE);
    }

    /** textAt: "also if the row is empty". */
    private static void textOfNone() {
        RepeatNests x = new RepeatNests();
        Due.is("textAt(0) of none", x.textAt(0), Due.NONE);
        Due.is("textAt(5) of none", x.textAt(5), Due.NONE);
        x.append(1);
        Due.is("textAt(0) of b", x.textAt(0), 'b');
        x.cut(1);
        Due.is("textAt(0) of none again", x.textAt(0), Due.NONE);
    }

    /** "A description is told by its items one right behind another": one letter, each of them. */
    private static void textOfOne() {
        for (int letter = 0; letter <= 3; letter++) {
            RepeatNests x = new RepeatNests();
            x.append(letter);
            Due.is("textAt(0) of letter " + letter, x.textAt(0), 'a' + letter);
            Due.is("textAt(1) of letter " + letter, x.textAt(1), Due.NONE);
        }
    }

    /** "a number of times (1 or 2 digits ...)", "its place (of 1 or 2 digits ...)". */
    private static void textsOfTimesAndPlaces() {
        textIs("aaaaaaaaa", by(2, 3, 3, 2, 3), "9(a)", 5);
        textIs("aaaaaaaaaa", by(2, 3, 3, 2, 3), "10(a)", 5);
        textIs("aaaaaaaaab", by(9, 1, 1, 2, 4), "10(a)[9,b]", 11);
        textIs("aaaaaaaaaab", by(9, 1, 1, 2, 4), "11(a)[10,b]", 11);
        textIs("aaaaaaaaaaaaaaaaaaaaaaad", by(9, 1, 1, 2, 4), "24(a)[23,d]", 11);
        // The place is one of the repeat, not of the row
        textIs("dddddddddcccccccccca", by(9, 1, 1, 1, 1), "9(d)11(c)[10,a]", 21);
    }

    /** All numbers of times, and all places of corrections, of a row. */
    private static void textsOfAllTimesAndPlaces() {
        for (int times = 4; times <= 24; times++) {
            textIs("c".repeat(times), by(2, 3, 3, 0, 3), times + "(c)", 5);
        }
        for (int place = 1; place <= 23; place++) {
            String row = "c".repeat(place) + "b" + "c".repeat(23 - place);
            textIs(row, by(9, 1, 1, 1, 1), "24(c)[" + place + ",b]", 11);
        }
    }

    /** cheapest: "5: the length of its text". */
    private static void textLengthIsThatOfTheText() {
        String[] rows = {"a", "ab", "aaaaaaaaa", "aaaaaaaaaa", "aaaaaaaaaaaaad", NESTED, NO_RUNS_24, A_24};
        for (String row : rows) {
            RepeatNests x = Due.row(row, 9, 1, 1, 2, 4);
            int length = x.cheapest(0, row.length(), 5);
            Due.is("length of the text of " + row, length, Due.textOf(x).length());
            Due.holds("the last character of " + row, x.textAt(length - 1) > 0);
            Due.is("behind the last character of " + row, x.textAt(length), Due.NONE);
        }
    }

    /** "There is a text of at most 60 characters": that is the typed one, the told one may be longer. */
    private static void textLongerThan60() {
        RepeatNests x = Due.row("abcdabcdbacdabdcbadcabcd", 9, 0, 0, 6, 4);
        String due = "4(4(a)[1,b][2,c][3,d])[8,b][9,a][14,d][15,c]8(b)[1,a][2,d][3,c][4,a][6,c][7,d]";
        Due.same("a long text", Due.textOf(x), due);
        Due.is("its length", x.cheapest(0, 24, 5), 78);
        Due.is("its price", x.cheapest(0, 24, 0), 18);
        Due.is("its corrections", x.cheapest(0, 24, 4), 13);
    }

    /** textAt: "of the cheapest description of the row", whatever was asked of a part. */
    private static void textOfTheRowNotOfAPart() {
        RepeatNests x = Due.row("baaaaa");
        Due.is("length of a part's text", x.cheapest(1, 6, 5), 4);
        Due.same("the row's text", Due.textOf(x), "b5(a)");
        Due.is("length of a part's text again", x.cheapest(1, 6, 5), 4);
    }

    // ---- how many

    /** descriptions: of the shortest part. */
    private static void descriptionsOfALetter() {
        RepeatNests x = Due.row("abcdabcdabcdabcdabcdabcd", 2, 3, 3, 6, 4);
        for (int place = 0; place < 24; place++) {
            Due.is("descriptions of the letter at " + place, x.descriptions(place, place + 1), 1);
        }
    }

    /** descriptions: "by the settings as they are": the most corrections, from 0 to more than there are. */
    private static void descriptionsByTheCorrections() {
        // abb: abb and a2(b), with 1 2(a)[1,b]b as well, with 2 3(a)[1,b][2,b] as well
        long[] due = {2, 3, 4, 4, 4, 4, 4};
        for (int many = 0; many <= 6; many++) {
            Due.is("descriptions of abb by " + many, number("abb", 2, 3, 3, many, 3), due[many]);
        }
        // A repeat of 8 with 7 corrections is never one
        Due.is("descriptions of abbbbbbb: all of 8 a's, but one", number("abbbbbbb", 2, 3, 3, 6, 1),
            number("aaaaaaaa", 2, 3, 3, 6, 1) - 1);
    }

    /** descriptions: "by the settings as they are": the greatest depth, from 0 to more than there are. */
    private static void descriptionsByTheDepth() {
        // Depth d takes 2 to the power of d letters at least, and just one description of so many has it
        String[] rows = {"aa", "aaaa", "aaaaaaaa", "aaaaaaaaaaaaaaaa"};
        for (int depth = 1; depth <= 4; depth++) {
            String row = rows[depth - 1];
            String shorter = row.substring(1);
            Due.is("descriptions of " + row + " at depth " + depth, number(row, 2, 3, 3, 0, depth),
                number(row, 2, 3, 3, 0, depth - 1) + 1);
            Due.is("descriptions of " + shorter + " at depth " + depth, number(shorter, 2, 3, 3, 0, depth),
                number(shorter, 2, 3, 3, 0, depth - 1));
        }
        long[] due = {1, 9, 10, 10, 10};
        for (int depth = 0; depth <= 4; depth++) {
            Due.is("descriptions of aaaa at depth " + depth, number("aaaa", 2, 3, 3, 0, depth), due[depth]);
        }
    }

    /** descriptions: "Returns how many there are", exactly, of the longest rows. */
    private static void descriptionsOf24() {
        Due.is("descriptions of 24 a", number(A_24, 2, 3, 3, 2, 3), ofLike(24, 3));
        Due.is("descriptions of 24 a, as deep as can be", number(A_24, 2, 3, 3, 6, 4), ofLike(24, 4));
        Due.is("that number", ofLike(24, 4), 74142414L);
        Due.is("descriptions of a row without runs", number(NO_RUNS_24, 2, 3, 3, 0, 4), 1);
    }

    /** How many descriptions so many like letters have, by the first item of each. */
    private static long ofLike(int letters, int depth) {
        if (letters == 0) {
            return 1;
        }
        long sum = ofLike(letters, depth, 1);
        for (int described = 2; described <= letters && depth > 0; described++) {
            sum += ofLike(letters, depth, described);
        }
        return sum;
    }

    private static final long[][][] KNOWN = new long[5][25][25];

    /** Those whose first item describes so many. */
    private static long ofLike(int letters, int depth, int described) {
        if (KNOWN[depth][letters][described] == 0) {
            long items = described == 1 ? 1 : 0;
            for (int block = 1; block < described; block++) {
                items += described % block == 0 ? ofLike(block, depth - 1) : 0;
            }
            KNOWN[depth][letters][described] = items * ofLike(letters - described, depth);
        }
        return KNOWN[depth][letters][described];
    }

    /** What was counted once is counted again behind each kind of change. */
    private static void descriptionsBehindChanges() {
        RepeatNests x = Due.row("aaa", 2, 3, 3, 0, 3);
        Due.is("aaa", x.descriptions(0, 3), 4);
        x.append(0);
        Due.is("aaaa", x.descriptions(0, 4), 10);
        x.change(0, 1);
        Due.is("baaa", x.descriptions(0, 4), 4);
        x.set(3, 1);
        Due.is("baaa with a correction", x.descriptions(0, 4), 8);
        x.undo();
        Due.is("baaa again", x.descriptions(0, 4), 4);
        x.cut(2);
        Due.is("ba", x.descriptions(0, 2), 1);
        Due.type(x, "3(b)");
        x.adopt();
        Due.is("bbb", x.descriptions(0, 3), 4);
    }

    // ---- another letter

    /** would: "place: a place of the row". */
    private static void wouldOfAPlaceOfTheRow() {
        RepeatNests x = Due.row("aaab");
        int[] wrong = {-1, 4, 23, 24, LOW, HIGH};
        for (int place : wrong) {
            Due.is("would(" + place + ", 0)", x.would(place, 0), Due.INVALID);
            Due.is("would(" + place + ", 0) of none", new RepeatNests().would(place, 0), Due.INVALID);
        }
        Due.is("would(0, 0) of none", new RepeatNests().would(0, 0), Due.INVALID);
        Due.is("would(0, 1): baab", x.would(0, 1), 8);
        Due.is("would(3, 0): 4(a)", x.would(3, 0), 5);
        RepeatNests full = Due.row(A_24);
        Due.is("would(24, 1) of 24", full.would(24, 1), Due.INVALID);
        Due.is("would(23, 1): 23(a)b", full.would(23, 1), 7);
    }

    /** would: "letter: 0 to 3". */
    private static void wouldOfALetter() {
        RepeatNests x = Due.row("aaa");
        int[] wrong = {-1, 4, 97, LOW, HIGH};
        for (int letter : wrong) {
            Due.is("would(0, " + letter + ")", x.would(0, letter), Due.INVALID);
        }
        for (int letter = 0; letter <= 3; letter++) {
            Due.is("would(2, " + letter + ")", x.would(2, letter), letter == 0 ? 5 : 6);
        }
    }

    /** would: "letter: 0 to 3", the one that stands there among them. */
    private static void wouldWithTheSameLetter() {
        RepeatNests x = Due.row("aaaaabaaaaab");
        for (int place = 0; place < 12; place++) {
            Due.is("would with the letter at " + place, x.would(place, x.letterAt(place)), 10);
        }
    }

    /** would: "Tells what the row would cost": the row, its history and its answers stay. */
    private static void wouldChangesNothing() {
        RepeatNests x = Due.row("aaaab");
        String before = Due.seen(x);
        Due.is("would(4, 0)", x.would(4, 0), 5);
        Due.same("all that can be asked", Due.seen(x), before);
        Due.same("the text", Due.textOf(x), "4(a)b");
        Due.is("would(0, 1) behind that: b3(a)b", x.would(0, 1), 9);
        Due.is("bestChange(2) behind that", x.bestChange(2), 5);
        Due.is("would(4, 0) behind that", x.would(4, 0), 5);
    }

    /** would: in a row of one letter, and what each change of the first and the last of 24 costs. */
    private static void wouldOfOneAndOf24() {
        RepeatNests one = Due.row("d", 9, 0, 0, 6, 4);
        for (int letter = 0; letter <= 3; letter++) {
            Due.is("would(0, " + letter + ") of one", one.would(0, letter), 9);
        }
        RepeatNests full = Due.row("baaaaaaaaaaaaaaaaaaaaaac");
        Due.is("b22(a)c", full.cheapest(0, 24, 0), 9);
        Due.is("would(0, 0): 23(a)c", full.would(0, 0), 7);
        Due.is("would(23, 0): b23(a)", full.would(23, 0), 7);
        Due.is("would(23, 1): b22(a)b", full.would(23, 1), 9);
    }

    /** bestChange: "INVALID_ARGUMENT if what is out of range". */
    private static void bestChangeOfWhat() {
        int[] wrong = {-1, 3, LOW, HIGH};
        for (int what : wrong) {
            Due.is("bestChange(" + what + ")", Due.row("aaab").bestChange(what), Due.INVALID);
            Due.is("bestChange(" + what + ") of none", new RepeatNests().bestChange(what), Due.INVALID);
        }
        bestIs(Due.row("aaab"), "3 0 5");
    }

    private static void bestIs(RepeatNests x, String due) {
        Due.same("bestChange of " + Due.rowOf(x), Due.bestChangeOf(x), due);
    }

    private static void bestIsNone(RepeatNests x) {
        bestIs(x, Due.NONE + " " + Due.NONE + " " + Due.NONE);
    }

    /** bestChange: "NOT_FOUND if by no change it would cost less than now": of none, and of one letter. */
    private static void bestChangeOfNoneAndOfOne() {
        bestIsNone(new RepeatNests());
        bestIsNone(Due.row("c", 1, 0, 0, 6, 4));
        RepeatNests cut = Due.row("aaab");
        bestIs(cut, "3 0 5");
        cut.cut(4);
        bestIsNone(cut);
    }

    /** bestChange: "NOT_FOUND if by no change it would cost less than now": not as much. */
    private static void bestChangeMustCostLess() {
        // bb costs as much as ab: 4 as letters, 5 with a repeat
        bestIsNone(Due.row("ab"));
        // 2(b) costs as much as ab if a repeat costs as much as a letter
        bestIsNone(Due.row("ab", 2, 2, 3, 0, 3));
        bestIs(Due.row("ab", 2, 1, 3, 0, 3), "0 1 3");
        bestIsNone(Due.row(A_24));
        bestIsNone(Due.row("aaab", 2, 3, 3, 2, 0));
        bestIsNone(Due.row("ab", 9, 0, 0, 1, 1));
    }

    /** bestChange: "0: the place, of several the lowest". */
    private static void bestChangeAtTheLowestPlace() {
        // Two like letters are made at either place, with a lower letter at the higher one
        bestIs(Due.row("ab", 9, 1, 20, 0, 4), "0 1 10");
        bestIs(Due.row("ba", 9, 1, 20, 0, 4), "0 0 10");
        bestIs(Due.row("cd", 9, 1, 20, 0, 4), "0 3 10");
        // At each place, and to lower letters at the higher ones
        bestIs(Due.row("abcd", 9, 1, 20, 0, 1), "0 1 28");
        bestIs(Due.row("adb", 9, 1, 20, 0, 1), "0 3 19");
        // A lower place saves less
        bestIs(Due.row("abaaa", 9, 1, 20, 0, 4), "1 0 10");
    }

    /** bestChange: "1: the letter, of several the lowest". */
    private static void bestChangeToTheLowestLetter() {
        // The letter between is made one of those ahead of it or one of those behind it
        RepeatNests x = Due.row("bbbcaaa", 9, 1, 20, 0, 1);
        Due.is("would(3, 0)", x.would(3, 0), 20);
        Due.is("would(3, 1)", x.would(3, 1), 20);
        bestIs(x, "3 0 20");
        RepeatNests turned = Due.row("aaacbbb", 9, 1, 20, 0, 1);
        bestIs(turned, "3 0 20");
        RepeatNests higher = Due.row("dddabbb", 9, 1, 20, 0, 1);
        bestIs(higher, "3 1 20");
    }

    /** bestChange: at the first and at the last place of a full row. */
    private static void bestChangeAtTheEnds() {
        bestIs(Due.row("baaaaaaaaaaaaaaaaaaaaaaa"), "0 0 5");
        bestIs(Due.row("aaaaaaaaaaaaaaaaaaaaaaad"), "23 0 5");
        bestIs(Due.row("ddddddddddddddddddddddda"), "23 3 5");
        bestIs(Due.row("caaaaaaaaaaaaaaaaaaaaaad"), "0 0 7");
    }

    /** What was found once is found again behind each kind of change. */
    private static void bestChangeBehindChanges() {
        RepeatNests x = Due.row("aaab");
        bestIs(x, "3 0 5");
        x.append(0);
        bestIs(x, "3 0 5");
        x.cut(2);
        bestIsNone(x);
        x.undo();
        bestIs(x, "3 0 5");
        x.change(3, 0);
        bestIsNone(x);
        x.set(4, 0);
        bestIsNone(x);
        x.undo();
        x.undo();
        x.turn();
        bestIs(x, "1 0 5");
        List<Integer> states = List.of(x.undo(), x.undo());
        Due.same("bestChange is no change", states.toString(), "[2, 1]");
    }
}
