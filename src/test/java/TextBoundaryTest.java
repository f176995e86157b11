/**
 * Each sentence of the document that names a boundary case of the text that is typed, its fault, what it tells
 * and its adoption has a test of its own here; the sentence stands above it.
 */
public final class TextBoundaryTest {
    private static final int LOW = Integer.MIN_VALUE;
    private static final int HIGH = Integer.MAX_VALUE;
    private static final String LETTERS_24 = "aaaaaaaaaaaaaaaaaaaaaaaa";
    /** A level of blocks takes 3 characters with its end, so 19 levels and a letter fit. */
    private static final int MOST_CLOSED_LEVELS = 19;

    private TextBoundaryTest() {
    }

    public static void main(String[] args) {
        typing();
        grammar();
        reasons();
        order();
        told();
        adopt();
        Due.end();
    }

    private static void typing() {
        charactersFrom32To126();
        atMost60Characters();
        roomBehindClearText();
        clearTextTellsTheLength();
        textsAreReadAgain();
    }

    private static void grammar() {
        emptyText();
        lettersAToD();
        charactersThatNoTextHas();
        timesOf1Or2Digits();
        timesNotWithout();
        blockNotEmpty();
        blockClosedOnce();
        correctionsBehindRepeatsAlone();
        placeOf1Or2Digits();
        correctionWhole();
        textsThatEndTooEarly();
        blocksInBlocks();
    }

    private static void reasons() {
        timesOf1();
        timesAbove24();
        timesToldAtTheBracket();
        correctionInTheFirstCopy();
        correctionBehindTheRepeat();
        correctionNotAboveTheOneAhead();
        correctionToTheSameLetter();
        correctionToldAtItsEnd();
        letterTooMany();
        repeatTooMany();
        tooManyInABlock();
        eachRowOfItemsForItself();
        manyRowsOfItems();
        tooManyToldAheadOfCorrections();
    }

    private static void order() {
        firstFaultFromTheLeft();
        settingsDoNotMatter();
        noFault();
        faultOfWhat();
    }

    private static void told() {
        noSuchTold();
        toldWithAFault();
        toldLettersBehindTheEnd();
        toldOfTheFirstAndTheLastLetter();
        toldWithoutRepeats();
        toldOfBlocksOnce();
        toldMostCorrectionsOfOneRepeat();
        toldDepth();
        toldByThePricesAsTheyAre();
        toldOfTheRow();
        toldOfOneTextBehindAnother();
    }

    private static void adopt() {
        adoptWithAFault();
        adoptOfOneAndOf24();
        adoptLeavesTheText();
        adoptInPlaceOfAFullRow();
    }

    private static void faultIs(String text, String due) {
        String wanted = due.equals("none") ? Due.NONE + " " + Due.NONE : due;
        RepeatNests x = new RepeatNests();
        for (int many = 0; many < text.length(); many++) {
            Due.is("type of " + text, x.type(text.charAt(many)), many + 1);
        }
        Due.same("fault of " + text, Due.faultOf(x), wanted);
        Due.is("told(0) of " + text, x.told(0) < 0 ? x.told(0) : 0, due.equals("none") ? 0 : Due.IMPOSSIBLE);
    }

    // ---- the text

    /** type: "character: 32 to 126". */
    private static void charactersFrom32To126() {
        RepeatNests x = new RepeatNests();
        int[] wrong = {31, 127, 0, -1, 97 + 256, LOW, HIGH};
        for (int character : wrong) {
            Due.is("type(" + character + ")", x.type(character), Due.INVALID);
        }
        Due.is("type(32)", x.type(32), 1);
        Due.is("type(126)", x.type(126), 2);
        for (int character = 32; character <= 126; character++) {
            Due.is("type(" + character + ")", new RepeatNests().type(character), 1);
        }
    }

    /** "There is a text of at most 60 characters"; type: "LIMIT_REACHED if it has 60 characters". */
    private static void atMost60Characters() {
        RepeatNests x = new RepeatNests();
        for (int many = 1; many <= 60; many++) {
            Due.is("type number " + many, x.type(' '), many);
        }
        Due.is("type number 61", x.type(' '), Due.LIMIT);
        Due.is("type number 62", x.type('a'), Due.LIMIT);
        Due.is("the length", x.count(3), 60);
    }

    /** type: "LIMIT_REACHED if it has 60 characters", and no longer when it has none. */
    private static void roomBehindClearText() {
        RepeatNests x = new RepeatNests();
        for (int many = 1; many <= 61; many++) {
            x.type('b');
        }
        Due.is("clearText of 60", x.clearText(), 60);
        for (int many = 1; many <= 60; many++) {
            Due.is("type number " + many + " behind clearText", x.type('b'), many);
        }
        Due.is("type number 61 behind clearText", x.type('b'), Due.LIMIT);
    }

    /** clearText: "Returns the length it had." */
    private static void clearTextTellsTheLength() {
        RepeatNests x = new RepeatNests();
        Due.is("clearText of none", x.clearText(), 0);
        Due.is("clearText of none again", x.clearText(), 0);
        x.type('a');
        x.type(127);
        Due.is("clearText of one", x.clearText(), 1);
        Due.is("clearText behind that", x.clearText(), 0);
    }

    /** What a text tells is asked for again behind each character and behind clearText. */
    private static void textsAreReadAgain() {
        RepeatNests x = new RepeatNests();
        Due.same("fault of no text", Due.faultOf(x), "0 1");
        x.type('2');
        Due.same("fault of 2", Due.faultOf(x), "1 1");
        Due.type(x, "(a)");
        Due.same("letters of 2(a)", Due.toldOf(x), "aa");
        x.type('b');
        Due.same("letters of 2(a)b", Due.toldOf(x), "aab");
        x.clearText();
        Due.same("fault behind clearText", Due.faultOf(x), "0 1");
        Due.is("told(1) behind clearText", x.told(1), Due.IMPOSSIBLE);
    }

    // ---- reason 1

    /** "the length of the text if it ends too early, as the empty text does". */
    private static void emptyText() {
        faultIs("", "0 1");
        RepeatNests x = Due.typed("abc");
        x.clearText();
        Due.same("fault of a cleared text", Due.faultOf(x), "0 1");
    }

    /** "An item is told as a letter a to d". */
    private static void lettersAToD() {
        faultIs("a", "none");
        faultIs("d", "none");
        faultIs("abcd", "none");
        faultIs("e", "0 1");
        faultIs("`", "0 1");
        faultIs("A", "0 1");
        faultIs("abcde", "4 1");
        faultIs("2(d)", "none");
        faultIs("2(e)", "2 1");
    }

    /** "a character that is not allowed there (the place of the character)": those that stand nowhere. */
    private static void charactersThatNoTextHas() {
        for (int character = 32; character <= 126; character++) {
            if ("abcd0123456789()[],".indexOf(character) < 0) {
                faultIs((char) character + "a", "0 1");
                faultIs("a" + (char) character, "1 1");
                faultIs("2" + (char) character, "1 1");
                faultIs("2(" + (char) character, "2 1");
                faultIs("2(a" + (char) character, "3 1");
                faultIs("2(a)" + (char) character, "4 1");
                faultIs("2(a)[" + (char) character, "5 1");
                faultIs("2(a)[1" + (char) character, "6 1");
                faultIs("2(a)[1," + (char) character, "7 1");
                faultIs("2(a)[1,b" + (char) character, "8 1");
            }
        }
    }

    /** "a number of times (1 or 2 digits, the first one not 0)". */
    private static void timesOf1Or2Digits() {
        faultIs("2(a)", "none");
        faultIs("9(a)", "none");
        faultIs("10(a)", "none");
        faultIs("20(a)", "none");
        faultIs("24(a)", "none");
        faultIs("0(a)", "0 1");
        faultIs("02(a)", "0 1");
        faultIs("a0", "1 1");
        faultIs("2(0", "2 1");
        faultIs("100(a)", "2 1");
        faultIs("110(a)", "2 1");
        faultIs("a240(a)", "3 1");
    }

    /** "a number of times ..., (, the items of the block, )": neither of them alone. */
    private static void timesNotWithout() {
        faultIs("(a)", "0 1");
        faultIs("a(", "1 1");
        faultIs("2a", "1 1");
        faultIs("12a", "2 1");
        faultIs("2)", "1 1");
        faultIs("2[", "1 1");
        faultIs("2,", "1 1");
        faultIs(")", "0 1");
        faultIs("[", "0 1");
        faultIs(",", "0 1");
        faultIs("]", "0 1");
    }

    /** "the items of the block": a block is a description, so that it has an item. */
    private static void blockNotEmpty() {
        faultIs("2()", "2 1");
        faultIs("a2(2())", "5 1");
        faultIs("2([1,a])", "2 1");
        faultIs("2(()", "2 1");
    }

    /** "(, the items of the block, )": one end for each beginning. */
    private static void blockClosedOnce() {
        faultIs("a)", "1 1");
        faultIs("2(a))", "4 1");
        faultIs("2(2(a)", "6 1");
        faultIs("2(2(a))", "none");
        faultIs("2(2(a)))", "7 1");
        faultIs("2(a][", "3 1");
    }

    /** "and for each correction [": behind the end of a repeat or of another correction alone. */
    private static void correctionsBehindRepeatsAlone() {
        faultIs("a[1,b]", "1 1");
        faultIs("[1,b]", "0 1");
        faultIs("2(a[1,b])", "3 1");
        faultIs("2(a)b[1,c]", "5 1");
        faultIs("2(a)[1,b]c[2,d]", "10 1");
        faultIs("2(a)[1,b]", "none");
        faultIs("3(a)[1,b][2,c]", "none");
        faultIs("2(2(a)[1,b])", "none");
        faultIs("2(2(a))[1,b]", "7 3");
        faultIs("2(a)[1,b]2(c)[1,d]", "none");
    }

    /** "its place (of 1 or 2 digits, of two the first one not 0)". */
    private static void placeOf1Or2Digits() {
        faultIs("2(a)[01,b]", "6 1");
        faultIs("2(a)[00,b]", "6 1");
        faultIs("2(a)[0,b]", "4 3");
        faultIs("2(a)[,b]", "5 1");
        faultIs("2(a)[-1,b]", "5 1");
        faultIs("20(a)[100,b]", "8 1");
        faultIs("10(a)[9,b]", "none");
        faultIs("11(a)[10,b]", "none");
        faultIs("24(a)[23,b]", "none");
        faultIs("21(a)[20,b]", "none");
        faultIs("2(a)[99,b]", "4 3");
    }

    /** "[, its place, ,, its letter, ]". */
    private static void correctionWhole() {
        faultIs("2(a)[]", "5 1");
        faultIs("2(a)[b]", "5 1");
        faultIs("2(a)[1]", "6 1");
        faultIs("2(a)[1b]", "6 1");
        faultIs("2(a)[1,]", "7 1");
        faultIs("2(a)[1,1]", "7 1");
        faultIs("2(a)[1,e]", "7 1");
        faultIs("2(a)[1,bc]", "8 1");
        faultIs("2(a)[1,b)", "8 1");
        faultIs("2(a)[1,b,", "8 1");
        faultIs("2(a)[1,b]]", "9 1");
        faultIs("2(a)[1,d]", "none");
    }

    /** "the length of the text if it ends too early": behind each of its characters where it may not end. */
    private static void textsThatEndTooEarly() {
        String whole = "12(2(a)[1,b])[10,c]d";
        for (int length = 0; length < whole.length(); length++) {
            boolean mayEnd = length == 13 || length == 19;
            faultIs(whole.substring(0, length), mayEnd ? "none" : length + " 1");
        }
        faultIs(whole, "19 4");
        faultIs("9(2(a)[1,b])[10,c]d", "none");
    }

    /** "a text of at most 60 characters": as deep as so many can tell. */
    private static void blocksInBlocks() {
        faultIs("2(".repeat(30), "60 1");
        faultIs("2(".repeat(29) + "a", "59 1");
        faultIs("2(".repeat(29) + "a)", "60 1");
        faultIs("2(".repeat(29) + "))", "58 1");
        faultIs("2(".repeat(28) + "2a", "57 1");
        String deep = "2(".repeat(MOST_CLOSED_LEVELS) + "a" + ")".repeat(MOST_CLOSED_LEVELS);
        // 2, 4, 8, 16 letters, and 32 with the fifth level from within
        faultIs(deep, 2 * (MOST_CLOSED_LEVELS - 5) + " 4");
        faultIs("2(2(2(2(a))))", "none");
        faultIs("2(2(2(2(2(a)))))", "0 4");
    }

    // ---- reasons 2 to 4

    /** "reason 2: a number of times that is 1". */
    private static void timesOf1() {
        faultIs("1(a)", "0 2");
        faultIs("1(", "0 2");
        faultIs("2(", "2 1");
        faultIs("10(a)", "none");
        faultIs("a2(1(b))", "3 2");
    }

    /** "reason 2: a number of times that is ... above 24". */
    private static void timesAbove24() {
        faultIs("24(a)", "none");
        faultIs("25(a)", "0 2");
        faultIs("30(a)", "0 2");
        faultIs("99(a)", "0 2");
        faultIs("abc25(", "3 2");
        faultIs("2(99(", "2 2");
    }

    /** "told when the ( behind it is read (the place of the first digit of the number)". */
    private static void timesToldAtTheBracket() {
        faultIs("1", "1 1");
        faultIs("25", "2 1");
        faultIs("99", "2 1");
        faultIs("1a", "1 1");
        faultIs("25a", "2 1");
        faultIs("255(", "2 1");
        faultIs("ab25(", "2 2");
        faultIs("1(e", "0 2");
        faultIs("1()", "0 2");
    }

    /** "reason 3: a correction whose place is not one of what the repeat describes behind the first copy". */
    private static void correctionInTheFirstCopy() {
        faultIs("2(abc)[0,d]", "6 3");
        faultIs("2(abc)[2,d]", "6 3");
        faultIs("2(abc)[3,d]", "none");
        faultIs("2(a)[0,b]", "4 3");
        faultIs("2(2(ab))[3,d]", "8 3");
        faultIs("2(2(ab))[4,d]", "none");
    }

    /** "not one of what the repeat describes": behind all of it. */
    private static void correctionBehindTheRepeat() {
        faultIs("2(abc)[5,d]", "none");
        faultIs("2(abc)[6,d]", "6 3");
        faultIs("2(abc)[6,d]d", "6 3");
        faultIs("2(abc)d[6,d]", "7 1");
        faultIs("aa2(a)[1,b]", "none");
        faultIs("aa2(a)[2,b]", "6 3");
        faultIs("24(a)[24,b]", "5 3");
        faultIs("2(a)[99,b]", "4 3");
    }

    /** "is not above the place of the correction ahead of it". */
    private static void correctionNotAboveTheOneAhead() {
        faultIs("3(ab)[3,c][3,d]", "10 3");
        faultIs("3(ab)[3,c][2,d]", "10 3");
        faultIs("3(ab)[3,c][3,c]", "10 3");
        faultIs("3(ab)[3,c][4,d]", "none");
        faultIs("3(ab)[2,c][5,d][5,a]", "15 3");
        // Those of another repeat, behind it or in its block, do not matter
        faultIs("2(ab)[3,c]2(ab)[2,c]", "none");
        faultIs("2(3(a)[2,b])[3,b]", "none");
    }

    /** "or whose letter would stand there anyway". */
    private static void correctionToTheSameLetter() {
        faultIs("2(a)[1,a]", "4 3");
        faultIs("2(ab)[2,a]", "5 3");
        faultIs("2(ab)[2,b]", "none");
        faultIs("2(ab)[3,b]", "5 3");
        // What would stand there is what the block describes with its own corrections
        faultIs("2(2(a)[1,b])[3,b]", "12 3");
        faultIs("2(2(a)[1,b])[3,a]", "none");
        // A correction ahead changes no later copy
        faultIs("3(a)[1,b][2,a]", "9 3");
        faultIs("3(a)[1,b][2,b]", "none");
    }

    /** "the place of its [; told when its ] is read". */
    private static void correctionToldAtItsEnd() {
        faultIs("2(a)[0,b", "8 1");
        faultIs("2(a)[0,be", "8 1");
        faultIs("2(a)[0,e]", "7 1");
        faultIs("2(a)[9,a]", "4 3");
        faultIs("2(a)[1,b][0,b", "13 1");
        faultIs("2(a)[1,b][0,b]", "9 3");
        faultIs("2(a)[1,a]e", "4 3");
    }

    /** "reason 4: the items of the text ... would describe more than 24 letters": by a letter. */
    private static void letterTooMany() {
        faultIs(LETTERS_24, "none");
        faultIs(LETTERS_24 + "b", "24 4");
        faultIs(LETTERS_24 + "e", "24 1");
        faultIs("24(a)b", "5 4");
        faultIs("23(a)b", "none");
        faultIs("23(a)bc", "6 4");
        faultIs(LETTERS_24 + LETTERS_24 + "aaaaaaaaaaaa", "24 4");
    }

    /** "would describe more than 24 letters": by a repeat, at "the place of the first character of that item". */
    private static void repeatTooMany() {
        faultIs("12(ab)", "none");
        faultIs("13(ab)", "0 4");
        faultIs("a23(b)", "none");
        faultIs("a24(b)", "1 4");
        faultIs("2(a)11(bc)", "none");
        faultIs("2(a)c11(bc)", "5 4");
        faultIs("24(24(a))", "0 4");
        faultIs("24(" + LETTERS_24 + ")", "0 4");
    }

    /** "those of a block": the items of a block alone would be too many, before its repeat is read whole. */
    private static void tooManyInABlock() {
        faultIs("2(" + LETTERS_24 + "b", "26 4");
        faultIs("2(" + LETTERS_24, "26 1");
        faultIs("2(" + LETTERS_24 + ")", "0 4");
        faultIs("2(24(a)b", "7 4");
        faultIs("2(24(a)2(b)", "7 4");
        faultIs("2(13(ab)", "2 4");
        faultIs("2(12(a))", "none");
        faultIs("2(13(a))", "0 4");
    }

    /** "each row of items for itself". */
    private static void eachRowOfItemsForItself() {
        faultIs("20(a)2(24(b)", "12 1");
        faultIs("20(a)2(24(b))", "5 4");
        faultIs("20(a)2(24(b)c", "12 4");
        faultIs("12(a)2(6(b))", "none");
        faultIs("12(a)2(6(b))c", "12 4");
        faultIs("13(a)2(6(b))", "5 4");
        faultIs("2(10(a)2(b", "10 1");
        faultIs("2(10(a)2(b))", "none");
        faultIs("2(10(a)3(b))", "0 4");
        faultIs("2(10(a)2(2(24(b)", "16 1");
    }

    /** "each row of items for itself": as many full rows of items in one another as 60 characters can tell. */
    private static void manyRowsOfItems() {
        String full = "24(d)2(".repeat(7);
        faultIs(full + "2(b)[1,b]", "53 3");
        faultIs(full + "2(b)[1,a]", "58 1");
        faultIs(full + "2(b)[1,d]", "58 1");
        faultIs(full + "24(b)c", "54 4");
        faultIs(full + "24(b)", "54 1");
        faultIs(full + "24(b))", "47 4");
        faultIs("aa2(".repeat(12) + "12(cb)[3,b]", "54 3");
        faultIs("aa2(".repeat(12) + "12(cb)[3,c]", "59 1");
    }

    /** "told when the item that makes it so is read whole but for its corrections". */
    private static void tooManyToldAheadOfCorrections() {
        faultIs("13(ab", "5 1");
        faultIs("13(ab)[", "0 4");
        faultIs("13(ab)[0,a]", "0 4");
        faultIs("13(ab)e", "0 4");
        faultIs("13(abe", "5 1");
        faultIs("12(ab)[", "7 1");
        faultIs("12(ab)[23,a]", "none");
    }

    // ---- which fault is told

    /** "the first one that is told as it is read from the left". */
    private static void firstFaultFromTheLeft() {
        faultIs("e1(a)", "0 1");
        faultIs("1(a)e", "0 2");
        faultIs("2(a)[1,a]1(", "4 3");
        faultIs("2(a)1(b)[0,a]", "4 2");
        faultIs("2(1(a", "2 2");
        faultIs("20(1(ab))", "3 2");
        faultIs("20(2(a)[0,b])", "7 3");
        faultIs("20(2(a)e", "7 1");
        faultIs("20(2(a))e", "0 4");
        faultIs("20(2(a))[0,b]", "0 4");
    }

    /** "Settings do not matter for texts." */
    private static void settingsDoNotMatter() {
        int[][] settings = {{1, 0, 0, 0, 0}, {9, 20, 20, 6, 4}};
        for (int[] setting : settings) {
            RepeatNests x = Due.row("", setting);
            Due.type(x, "10(a)[1,b][2,b][3,b][4,b][5,b][6,b][7,b][8,b]");
            Due.is("fault with 8 corrections", x.fault(0), Due.NONE);
            Due.is("most corrections told", x.told(4), 8);
            Due.is("adopt", x.adopt(), 10);
            x.clearText();
            Due.type(x, "2(2(2(2(a)[1,b])))");
            Due.is("fault with 4 levels", x.fault(0), Due.NONE);
            Due.is("depth told", x.told(2), 4);
        }
    }

    /** fault: "NOT_FOUND if the text has no fault". */
    private static void noFault() {
        RepeatNests x = Due.typed("a");
        Due.is("fault(0)", x.fault(0), Due.NONE);
        Due.is("fault(1)", x.fault(1), Due.NONE);
        x.type('2');
        Due.same("a fault behind another character", Due.faultOf(x), "2 1");
        Due.type(x, "(b)");
        Due.is("fault(0) when the text goes on", x.fault(0), Due.NONE);
    }

    /** fault: "what: 0: its place; 1: its reason". */
    private static void faultOfWhat() {
        RepeatNests x = Due.typed("ab25(");
        int[] wrong = {-1, 2, LOW, HIGH};
        for (int what : wrong) {
            Due.is("fault(" + what + ")", x.fault(what), Due.INVALID);
        }
        Due.is("fault(0)", x.fault(0), 2);
        Due.is("fault(1)", x.fault(1), 2);
    }

    // ---- what the text tells

    /** told: "INVALID_ARGUMENT if what is none of these (k is 0 to 23)". */
    private static void noSuchTold() {
        int[] wrong = {-1, 6, 7, 50, 99, 124, 125, 200, -100, LOW, LOW + 99, LOW + 100, HIGH};
        for (int what : wrong) {
            Due.is("told(" + what + ")", Due.typed("24(a)").told(what), Due.INVALID);
        }
        for (int what = 0; what <= 5; what++) {
            Due.holds("told(" + what + ")", Due.typed("24(a)").told(what) >= 0);
        }
        Due.is("told(100)", Due.typed("24(d)").told(100), 3);
        Due.is("told(123)", Due.typed("24(d)").told(123), 3);
    }

    /** told: "NOT_POSSIBLE if the text has a fault". */
    private static void toldWithAFault() {
        String[] texts = {"", "e", "2(a", "25(", "2(a)[0,b]", "13(ab)"};
        int[] right = {0, 1, 2, 3, 4, 5, 100, 123};
        for (String text : texts) {
            for (int what : right) {
                Due.is("told(" + what + ") of " + text, Due.typed(text).told(what), Due.IMPOSSIBLE);
            }
        }
    }

    /** told: "NOT_FOUND if there are not so many letters". */
    private static void toldLettersBehindTheEnd() {
        RepeatNests x = Due.typed("2(ab)");
        Due.is("told(103)", x.told(103), 1);
        Due.is("told(104)", x.told(104), Due.NONE);
        Due.is("told(123)", x.told(123), Due.NONE);
        RepeatNests shorter = Due.typed("24(c)");
        Due.is("told(123) of 24", shorter.told(123), 2);
        shorter.clearText();
        shorter.type('c');
        Due.is("told(100) of a shorter one", shorter.told(100), 2);
        Due.is("told(101) of a shorter one", shorter.told(101), Due.NONE);
    }

    /** told: "100 plus k: the letter k that it describes, from 0". */
    private static void toldOfTheFirstAndTheLastLetter() {
        RepeatNests x = Due.typed("b22(a)c");
        Due.is("told(1)", x.told(1), 24);
        Due.is("told(100)", x.told(100), 1);
        Due.is("told(101)", x.told(101), 0);
        Due.is("told(122)", x.told(122), 0);
        Due.is("told(123)", x.told(123), 2);
        Due.same("letters of c3(b)2(da)", Due.toldOf(Due.typed("c3(b)2(da)")), "cbbbdada");
        Due.same("letters of c2(d3(b)a)b", Due.toldOf(Due.typed("c2(d3(b)a)b")), "cdbbbadbbbab");
        Due.same("letters of b4(c)[1,d][3,a]d", Due.toldOf(Due.typed("b4(c)[1,d][3,a]d")), "bcdcad");
    }

    /** told: "4: the most corrections of one repeat (0 without repeats)"; "The depth of a letter is 0". */
    private static void toldWithoutRepeats() {
        RepeatNests x = Due.typed("abc");
        Due.is("what it costs", x.told(0), 6);
        Due.is("its letters", x.told(1), 3);
        Due.is("its depth", x.told(2), 0);
        Due.is("its corrections", x.told(3), 0);
        Due.is("the most of one repeat", x.told(4), 0);
        RepeatNests without = Due.typed("2(a)");
        Due.is("corrections of a repeat without them", without.told(3), 0);
        Due.is("the most of a repeat without them", without.told(4), 0);
    }

    /** told: "3: its corrections in all (those in a block once)"; a repeat costs "what its block costs", once. */
    private static void toldOfBlocksOnce() {
        RepeatNests x = Due.typed("6(2(a)[1,b])[3,c]");
        Due.is("its corrections", x.told(3), 2);
        Due.is("what it costs: 3 + 3 + 2 + 3 + 3", x.told(0), 14);
        Due.is("its letters", x.told(1), 12);
        Due.same("its letters", Due.toldOf(x), "abacabababab");
    }

    /** told: "4: the most corrections of one repeat": the first, the last, one around or one in a block. */
    private static void toldMostCorrectionsOfOneRepeat() {
        Due.is("in the first", Due.typed("3(a)[1,b][2,b]2(a)[1,b]").told(4), 2);
        Due.is("in the last", Due.typed("2(a)[1,b]3(a)[1,b][2,b]").told(4), 2);
        Due.is("in a block", Due.typed("2(3(a)[1,b][2,b])[3,b]").told(4), 2);
        Due.is("around a block", Due.typed("2(2(a)[1,b])[2,b][3,c]").told(4), 2);
        Due.is("in the last one, without", Due.typed("2(a)[1,b]2(a)").told(4), 1);
    }

    /** "The depth ... of a repeat 1 more than that of its block, that of a description the greatest one of its items". */
    private static void toldDepth() {
        Due.is("depth of a repeat", Due.typed("2(a)").told(2), 1);
        Due.is("depth of a repeat of repeats", Due.typed("2(2(a))").told(2), 2);
        Due.is("depth with the deepest first", Due.typed("2(2(a))2(a)b").told(2), 2);
        Due.is("depth with the deepest last", Due.typed("b2(a)2(2(a))").told(2), 2);
        Due.is("depth with the deepest in a block", Due.typed("2(b2(2(a))c)").told(2), 3);
    }

    /** told: "0: what it costs": by the prices as they are, the least and the greatest ones. */
    private static void toldByThePricesAsTheyAre() {
        RepeatNests x = Due.typed("2(ab)[3,c]d");
        Due.is("by the first prices", x.told(0), 3 * 2 + 3 + 3);
        x.set(0, 9);
        x.set(1, 20);
        x.set(2, 20);
        Due.is("by the greatest prices", x.told(0), 3 * 9 + 20 + 20);
        x.set(0, 1);
        x.set(1, 0);
        x.set(2, 0);
        Due.is("by the least prices", x.told(0), 3);
        x.undo();
        Due.is("behind undo", x.told(0), 3 + 20);
    }

    /** told: "5: 1 if it describes the row, otherwise 0". */
    private static void toldOfTheRow() {
        RepeatNests x = Due.typed("2(ab)");
        Due.is("an empty row", x.told(5), 0);
        Due.append(x, "aba");
        Due.is("a row without the last letter", x.told(5), 0);
        x.append(1);
        Due.is("the row", x.told(5), 1);
        x.append(1);
        Due.is("a row with one letter more", x.told(5), 0);
        x.undo();
        Due.is("the row behind undo", x.told(5), 1);
        x.change(3, 2);
        Due.is("another last letter", x.told(5), 0);
        x.undo();
        x.change(0, 2);
        Due.is("another first letter", x.told(5), 0);
        RepeatNests full = Due.row(LETTERS_24);
        Due.type(full, "24(a)");
        Due.is("24 letters", full.told(5), 1);
        full.change(23, 1);
        Due.is("24 letters, the last one another", full.told(5), 0);
    }

    /** What one text told is not told of the next one, be it longer or typed anew. */
    private static void toldOfOneTextBehindAnother() {
        RepeatNests x = Due.typed("3(a)[1,b][2,c]");
        Due.same("told behind another text", Due.measuresOf(x), "11 3 1 2 2");
        Due.type(x, "2(b)");
        Due.same("told behind another text", Due.measuresOf(x), "16 5 1 2 2");
        x.clearText();
        Due.type(x, "2(2(a)[1,b])");
        Due.same("told behind another text", Due.measuresOf(x), "11 4 2 1 1");
        x.clearText();
        x.type('d');
        Due.same("told behind another text", Due.measuresOf(x), "2 1 0 0 0");
        x.type('(');
        Due.is("told(0) with a fault", x.told(0), Due.IMPOSSIBLE);
    }

    // ---- adopt

    /** adopt: "NOT_POSSIBLE if the text has a fault". */
    private static void adoptWithAFault() {
        String[] texts = {"", "e", "2(a", "25(", "2(a)[0,b]", "13(ab)"};
        for (String text : texts) {
            RepeatNests x = Due.row("dd");
            Due.type(x, text);
            Due.is("adopt of " + text, x.adopt(), Due.IMPOSSIBLE);
            Due.same("the row behind adopt of " + text, Due.rowOf(x), "dd");
            Due.is("states behind adopt of " + text, x.count(2), 2);
        }
    }

    /** adopt: "Returns how many letters it has then": one, and as many as a row has. */
    private static void adoptOfOneAndOf24() {
        RepeatNests one = Due.typed("d");
        Due.is("adopt of one", one.adopt(), 1);
        Due.same("the row", Due.rowOf(one), "d");
        RepeatNests full = Due.typed("23(b)c");
        Due.is("adopt of 24", full.adopt(), 24);
        Due.is("the last letter", full.letterAt(23), 2);
        Due.is("append to that", full.append(0), Due.LIMIT);
        Due.is("cheapest of that", full.cheapest(0, 24, 0), 7);
    }

    /** adopt: "the text stays". */
    private static void adoptLeavesTheText() {
        RepeatNests x = Due.typed("3(ab)[5,c]");
        Due.is("adopt", x.adopt(), 6);
        Due.is("the length of the text", x.count(3), 10);
        Due.same("what it tells", Due.toldOf(x), "ababac");
        Due.is("it describes the row", x.told(5), 1);
        x.undo();
        Due.is("the length of the text behind undo", x.count(3), 10);
    }

    /** adopt: "Makes the row what the text describes": nothing of the row ahead of it stays. */
    private static void adoptInPlaceOfAFullRow() {
        RepeatNests x = Due.row(LETTERS_24);
        Due.type(x, "2(b)");
        Due.is("adopt of 2", x.adopt(), 2);
        Due.same("the row", Due.rowOf(x), "bb");
        Due.is("letterAt(2)", x.letterAt(2), Due.NONE);
        Due.is("append to that", x.append(2), 3);
        x.undo();
        x.undo();
        Due.same("the full row again", Due.rowOf(x), LETTERS_24);
    }
}
