/** Each promise of the document by answers that were worked out by hand. */
public final class PromiseTest {
    private PromiseTest() {
    }

    public static void main(String[] args) {
        newObject();
        append();
        cut();
        change();
        turn();
        set();
        letterAt();
        unlike();
        period();
        runOf();
        cheapest();
        cheapestTies();
        textAt();
        descriptions();
        would();
        bestChange();
        type();
        clearText();
        faultNotAllowed();
        faultOthers();
        told();
        adopt();
        count();
        undo();
        Due.end();
    }

    /** Promise 1. */
    private static void newObject() {
        Due.is("INVALID_ARGUMENT", RepeatNests.INVALID_ARGUMENT, -1000001);
        Due.is("NOT_POSSIBLE", RepeatNests.NOT_POSSIBLE, -1000002);
        Due.is("LIMIT_REACHED", RepeatNests.LIMIT_REACHED, -1000003);
        Due.is("NOT_FOUND", RepeatNests.NOT_FOUND, -1000004);
        RepeatNests x = new RepeatNests();
        for (int what = 0; what <= 3; what++) {
            Due.is("new: count(" + what + ")", x.count(what), 0);
        }
        int[] first = {2, 3, 3, 2, 3};
        for (int what = 0; what < 5; what++) {
            Due.is("new: count(" + (20 + what) + ")", x.count(20 + what), first[what]);
        }
        RepeatNests other = new RepeatNests();
        other.append(1);
        other.set(0, 9);
        other.type('a');
        Due.is("another object's letters", x.count(0), 0);
        Due.is("another object's settings", x.count(20), 2);
        Due.is("another object's text", x.count(3), 0);
    }

    /** Promise 2. */
    private static void append() {
        RepeatNests x = new RepeatNests();
        Due.is("append(-1)", x.append(-1), Due.INVALID);
        Due.is("append(4)", x.append(4), Due.INVALID);
        for (int many = 1; many <= 24; many++) {
            Due.is("append", x.append(many % 4), many);
        }
        Due.is("append a 25th", x.append(0), Due.LIMIT);
        Due.is("append a wrong 25th", x.append(4), Due.INVALID);
        Due.same("the row appended", Due.rowOf(x), "bcdabcdabcdabcdabcdabcda");
        Due.is("states after 24 appends", x.count(2), 4);
    }

    /** Promise 3. */
    private static void cut() {
        RepeatNests x = Due.row("abcd");
        Due.is("cut(0)", x.cut(0), Due.INVALID);
        Due.is("cut(25)", x.cut(25), Due.INVALID);
        Due.is("cut(-1)", x.cut(-1), Due.INVALID);
        Due.is("cut(5) of 4", x.cut(5), Due.IMPOSSIBLE);
        Due.is("cut(24) of 4", x.cut(24), Due.IMPOSSIBLE);
        Due.is("cut(1)", x.cut(1), 3);
        Due.same("cut(1)", Due.rowOf(x), "abc");
        Due.is("cut(3)", x.cut(3), 0);
        Due.is("cut(1) of none", x.cut(1), Due.IMPOSSIBLE);
        Due.is("append after cut", x.append(2), 1);
        Due.same("append after cut", Due.rowOf(x), "c");
        RepeatNests full = Due.row("abcdabcdabcdabcdabcdabcd");
        Due.is("cut(24)", full.cut(24), 0);
    }

    /** Promise 4. */
    private static void change() {
        RepeatNests x = Due.row("abca");
        Due.is("change(-1, 0)", x.change(-1, 0), Due.INVALID);
        Due.is("change(4, 0)", x.change(4, 0), Due.INVALID);
        Due.is("change(0, -1)", x.change(0, -1), Due.INVALID);
        Due.is("change(0, 4)", x.change(0, 4), Due.INVALID);
        Due.is("change(2, 3)", x.change(2, 3), 2);
        Due.is("change(0, 1)", x.change(0, 1), 0);
        Due.same("changed", Due.rowOf(x), "bbda");
        x.undo();
        x.undo();
        Due.is("change to the same", x.change(1, 1), 1);
        Due.is("change to the same is a change", x.undo(), 2);
        Due.is("change in an empty row", new RepeatNests().change(0, 0), Due.INVALID);
    }

    /** Promise 5. */
    private static void turn() {
        RepeatNests x = Due.row("abbcd");
        Due.is("turn", x.turn(), 3);
        Due.same("turned", Due.rowOf(x), "dcbba");
        x.append(2);
        Due.is("turn again", x.turn(), 2);
        Due.same("turned again", Due.rowOf(x), "cabbcd");
        Due.is("turn of none", new RepeatNests().turn(), Due.IMPOSSIBLE);
        RepeatNests one = Due.row("b");
        Due.is("turn of one", one.turn(), 1);
        Due.is("turn of one is a change", one.count(2), 2);
    }

    /** Promise 6. */
    private static void set() {
        int[] least = {1, 0, 0, 0, 0};
        int[] most = {9, 20, 20, 6, 4};
        int[] first = {2, 3, 3, 2, 3};
        RepeatNests x = new RepeatNests();
        Due.is("set(-1, 1)", x.set(-1, 1), Due.INVALID);
        Due.is("set(5, 1)", x.set(5, 1), Due.INVALID);
        for (int what = 0; what < 5; what++) {
            Due.is("set too low " + what, x.set(what, least[what] - 1), Due.INVALID);
            Due.is("set too high " + what, x.set(what, most[what] + 1), Due.INVALID);
            Due.is("set least " + what, x.set(what, least[what]), first[what]);
            Due.is("set most " + what, x.set(what, most[what]), least[what]);
            Due.is("set the same " + what, x.set(what, most[what]), most[what]);
            Due.is("setting " + what, x.count(20 + what), most[what]);
        }
        Due.is("states after sets", x.count(2), 4);
    }

    /** Promise 7. */
    private static void letterAt() {
        RepeatNests x = Due.row("dcb");
        Due.is("letterAt(-1)", x.letterAt(-1), Due.INVALID);
        Due.is("letterAt(0)", x.letterAt(0), 3);
        Due.is("letterAt(2)", x.letterAt(2), 1);
        Due.is("letterAt(3)", x.letterAt(3), Due.NONE);
        Due.is("letterAt(24)", x.letterAt(24), Due.NONE);
        Due.is("letterAt of none", new RepeatNests().letterAt(0), Due.NONE);
    }

    /** Promise 8. */
    private static void unlike() {
        RepeatNests x = Due.row("abacab");
        Due.is("unlike(0, 6, 1)", x.unlike(0, 6, 1), 5);
        Due.is("unlike(0, 6, 2)", x.unlike(0, 6, 2), 2);
        Due.is("unlike(0, 6, 4)", x.unlike(0, 6, 4), 0);
        Due.is("unlike(0, 6, 6)", x.unlike(0, 6, 6), 0);
        Due.is("unlike(0, 6, 24)", x.unlike(0, 6, 24), 0);
        Due.is("unlike looks at the part alone", x.unlike(2, 6, 2), 1);
        Due.is("unlike(3, 6, 3)", x.unlike(3, 6, 3), 0);
        Due.is("unlike(0, 6, 0)", x.unlike(0, 6, 0), Due.INVALID);
        Due.is("unlike(0, 6, 25)", x.unlike(0, 6, 25), Due.INVALID);
        wrongParts("unlike", x, 0);
    }

    /** Promise 9. */
    private static void period() {
        RepeatNests x = Due.row("abacaba");
        Due.is("period(0, 7)", x.period(0, 7), 4);
        Due.is("period(0, 3)", x.period(0, 3), 2);
        Due.is("period(0, 4)", x.period(0, 4), 4);
        Due.is("period(1, 3)", x.period(1, 3), 2);
        Due.is("period(6, 7)", x.period(6, 7), 1);
        Due.is("period of aaaa", Due.row("aaaa").period(0, 4), 1);
        wrongParts("period", x, 1);
    }

    /** Promise 10. */
    private static void runOf() {
        Due.same("runs of abab", Due.runsOf(Due.row("abab")), "0-4:2");
        Due.same("runs of aabaab", Due.runsOf(Due.row("aabaab")), "0-6:3 0-2:1 3-5:1");
        Due.same("runs of ababaab: not longer with another period", Due.runsOf(Due.row("ababaab")), "0-5:2 4-6:1");
        Due.same("runs of abaabaa", Due.runsOf(Due.row("abaabaa")), "0-7:3 2-4:1 5-7:1");
        Due.same("runs of aaaa", Due.runsOf(Due.row("aaaa")), "0-4:1");
        Due.same("runs of aabb", Due.runsOf(Due.row("aabb")), "0-2:1 2-4:1");
        Due.same("runs of baabab, the longer one first", Due.runsOf(Due.row("baabab")), "2-6:2 1-3:1");
        Due.same("runs of abcd", Due.runsOf(Due.row("abcd")), "");
        RepeatNests x = Due.row("aab");
        Due.is("runOf(-1, 0)", x.runOf(-1, 0), Due.INVALID);
        Due.is("runOf(0, -1)", x.runOf(0, -1), Due.INVALID);
        Due.is("runOf(0, 3)", x.runOf(0, 3), Due.INVALID);
        Due.is("runOf(9, 3)", x.runOf(9, 3), Due.INVALID);
        Due.is("runOf(1, 0)", x.runOf(1, 0), Due.NONE);
        Due.is("runOf(1000000, 2)", x.runOf(1000000, 2), Due.NONE);
    }

    /** Promise 11. */
    private static void cheapest() {
        // 5(a)b: 3 + 2 + 2, the five letters at 10 without the repeat
        cheapestIs(Due.row("aaaaab"), "5(a)b", "7 2 1 1 0 5 5 5");
        // 4(ab)[7,d]: 3 + 4 + 3
        cheapestIs(Due.row("abababad"), "4(ab)[7,d]", "10 1 1 1 1 10 8 4");
        cheapestIs(Due.row("c"), "c", "2 1 0 0 0 1 1 1");
        cheapestIs(Due.row("abcd"), "abcd", "8 4 0 0 0 4 1 1");
        // A repeat within a repeat: 2(5(a)b) costs 3 + 3 + 2 + 2
        cheapestIs(Due.row("aaaaabaaaaab"), "2(5(a)b)", "10 1 2 2 0 8 12 2");
        // No repeat within it at depth 1: 2(aaaaab) costs 15, 5(a)b5(a)b costs 14
        cheapestIs(Due.row("aaaaabaaaaab", 2, 3, 3, 0, 1), "5(a)b5(a)b", "14 4 1 2 0 10 5 5");
        // At depth 1, but with a correction: 3 + 2 + 3 + 2
        cheapestIs(Due.row("aaaaabaaaaab", 2, 3, 3, 2, 1), "11(a)[5,b]b", "10 2 1 1 1 11 11 11");
        // Prices and limits as they are
        cheapestIs(Due.row("aaaaab", 2, 3, 3, 2, 0), "aaaaab", "12 6 0 0 0 6 1 1");
        cheapestIs(Due.row("aaaaab", 9, 20, 3, 2, 3), "6(a)[5,b]", "32 1 1 1 1 9 6 6");
        cheapestIs(Due.row("aaaaab", 9, 20, 3, 0, 3), "5(a)b", "38 2 1 1 0 5 5 5");
        // Corrections are counted with those in blocks once, and their places from 0 on within the repeat
        cheapestIs(Due.row("abababacabababac", 9, 1, 9, 2, 4), "2(4(ab)[7,c])", "29 1 2 2 1 13 16 2");
        cheapestIs(Due.row("abababacabababac", 9, 1, 1, 2, 4), "8(2(a)[1,b])[7,c][15,c]", "14 1 2 2 3 23 16 8");
        cheapestIs(Due.row("aaaaaaaaaaaac", 9, 1, 1, 2, 4), "13(a)[12,c]", "11 1 1 1 1 11 13 13");
        RepeatNests x = Due.row("dabab");
        Due.is("cheapest of a part", x.cheapest(1, 5, 0), 7);
        Due.is("first item of a part", x.cheapest(1, 5, 6), 4);
        Due.is("first item's times of a part", x.cheapest(1, 5, 7), 2);
        Due.is("another part", x.cheapest(0, 3, 0), 6);
        Due.is("items of another part", x.cheapest(0, 3, 1), 3);
        Due.is("cheapest(0, 5, -1)", x.cheapest(0, 5, -1), Due.INVALID);
        Due.is("cheapest(0, 5, 8)", x.cheapest(0, 5, 8), Due.INVALID);
        wrongParts("cheapest", x, 2);
    }

    /** Promise 11 where several descriptions cost the same. */
    private static void cheapestTies() {
        // aa costs 4, 2(a) 5; at price 2 of a repeat both cost 4, and the first item is to describe most
        cheapestIs(Due.row("aa", 2, 3, 3, 2, 3), "aa", "4 2 0 0 0 2 1 1");
        cheapestIs(Due.row("aa", 2, 2, 3, 2, 3), "2(a)", "4 1 1 1 0 4 2 2");
        // 4(a) rather than 2(2(a)): the shortest block
        cheapestIs(Due.row("aaaa", 1, 0, 0, 0, 4), "4(a)", "1 1 1 1 0 4 4 4");
        // 2(ab) costs 4 as well, but its block is longer
        cheapestIs(Due.row("abab", 2, 0, 1, 2, 1), "4(a)[1,b][3,b]", "4 1 1 1 2 14 4 4");
        // The block is compared likewise: that of 2(ab) costs the same, but its first item describes less
        cheapestIs(Due.row("abab", 1, 0, 1, 2, 4), "2(2(a)[1,b])", "2 1 2 2 1 12 4 2");
        cheapestIs(Due.row("abab", 2, 0, 2, 1, 4), "2(2(a)[1,b])", "4 1 2 2 1 12 4 2");
        // The next items are compared likewise
        cheapestIs(Due.row("caa", 2, 2, 9, 0, 4), "c2(a)", "6 2 1 1 0 5 1 1");
    }

    private static void cheapestIs(RepeatNests x, String text, String measures) {
        String row = Due.rowOf(x);
        StringBuilder got = new StringBuilder();
        for (int what = 0; what <= 7; what++) {
            got.append(what == 0 ? "" : " ").append(x.cheapest(0, row.length(), what));
        }
        Due.same("cheapest of " + row, got.toString(), measures);
        Due.same("text of " + row, Due.textOf(x), text);
    }

    /** Promise 12. */
    private static void textAt() {
        RepeatNests x = Due.row("abab");
        Due.is("textAt(-1)", x.textAt(-1), Due.INVALID);
        Due.is("textAt(0)", x.textAt(0), '2');
        Due.is("textAt(4)", x.textAt(4), ')');
        Due.is("textAt(5)", x.textAt(5), Due.NONE);
        x.cheapest(0, 1, 5);
        Due.is("textAt is of the row, also behind a part", x.textAt(2), 'a');
        x.change(0, 2);
        Due.same("text behind a change", Due.textOf(x), "cbab");
        x.undo();
        Due.same("text behind undo", Due.textOf(x), "2(ab)");
        x.set(4, 0);
        Due.same("text behind set", Due.textOf(x), "abab");
        Due.is("textAt of none", new RepeatNests().textAt(0), Due.NONE);
        Due.is("textAt(-1) of none", new RepeatNests().textAt(-1), Due.INVALID);
        // The longest text there is has more than the 60 characters of a typed one.
        RepeatNests costly = Due.row("abcdabcdbacdabdcbadcabcd", 9, 0, 0, 6, 4);
        Due.holds("a long text", Due.textOf(costly).length() > 60);
    }

    /** Promise 13. */
    private static void descriptions() {
        // aaa: aaa, 2(a)a, a2(a), 3(a)
        Due.is("descriptions of aaa", Due.row("aaa").descriptions(0, 3), 4);
        Due.is("descriptions of aaaa", Due.row("aaaa").descriptions(0, 4), 10);
        // at depth 1 without 2(2(a)), at depth 0 letters alone
        Due.is("descriptions of aaaa at depth 1", Due.row("aaaa", 2, 3, 3, 2, 1).descriptions(0, 4), 9);
        Due.is("descriptions of aaaa at depth 0", Due.row("aaaa", 2, 3, 3, 2, 0).descriptions(0, 4), 1);
        // ab: ab, 2(a)[1,b]
        Due.is("descriptions of ab", Due.row("ab").descriptions(0, 2), 2);
        Due.is("descriptions of ab without corrections", Due.row("ab", 2, 3, 3, 0, 3).descriptions(0, 2), 1);
        // abc: abc, 2(a)[1,b]c, a2(b)[1,c], 3(a)[1,b][2,c]
        Due.is("descriptions of abc", Due.row("abc").descriptions(0, 3), 4);
        Due.is("descriptions of abc with a correction each", Due.row("abc", 2, 3, 3, 1, 3).descriptions(0, 3), 3);
        RepeatNests x = Due.row("daaaab");
        Due.is("descriptions of a part", x.descriptions(1, 4), 4);
        Due.is("descriptions of a letter", x.descriptions(5, 6), 1);
        wrongParts("descriptions", x, 3);
    }

    /** Promise 14. */
    private static void would() {
        RepeatNests x = Due.row("abababad");
        Due.is("would(7, 1)", x.would(7, 1), 7);
        Due.is("would(7, 3), as it is", x.would(7, 3), 10);
        // cbababad: c and b and 2(ab) and a and d, or 4(cb) with four corrections, or 3(ba)... c3(ba)d
        Due.is("would(0, 2)", x.would(0, 2), 11);
        Due.same("would changes nothing", Due.rowOf(x), "abababad");
        Due.is("would is no change", x.count(2), 4);
        Due.is("cheapest behind would", x.cheapest(0, 8, 0), 10);
        Due.is("would(-1, 0)", x.would(-1, 0), Due.INVALID);
        Due.is("would(8, 0)", x.would(8, 0), Due.INVALID);
        Due.is("would(0, -1)", x.would(0, -1), Due.INVALID);
        Due.is("would(0, 4)", x.would(0, 4), Due.INVALID);
        Due.is("would in an empty row", new RepeatNests().would(0, 0), Due.INVALID);
    }

    /** Promise 15. */
    private static void bestChange() {
        RepeatNests x = Due.row("abababad");
        bestChangeIs(x, "7 1 7");
        Due.same("bestChange changes nothing", Due.rowOf(x), "abababad");
        x.change(7, 1);
        bestChangeIs(x, "-1000004 -1000004 -1000004");
        x.undo();
        bestChangeIs(x, "7 1 7");
        // aaab: 7 as 4 letters are 8 and 3(a)b is 7; 4(a) costs 5
        bestChangeIs(Due.row("aaab"), "3 0 5");
        bestChangeIs(Due.row("abaaa", 9, 1, 20, 0, 4), "1 0 10");
        // ab to bb or aa at one price: the lowest place; with b at 0 the letter is 1
        bestChangeIs(Due.row("ab", 9, 1, 20, 0, 4), "0 1 10");
        // abcb: c to ... abab (2(ab), 19) by place 2; aacb and so on (28): place 2 alone
        bestChangeIs(Due.row("abcb", 9, 1, 20, 0, 4), "0 2 19");
        Due.is("bestChange(-1)", x.bestChange(-1), Due.INVALID);
        Due.is("bestChange(3)", x.bestChange(3), Due.INVALID);
        Due.is("bestChange of none", new RepeatNests().bestChange(2), Due.NONE);
        Due.is("bestChange(3) of none", new RepeatNests().bestChange(3), Due.INVALID);
        RepeatNests dear = Due.row("ab", 9, 1, 20, 0, 4);
        Due.is("bestChange ahead of set", dear.bestChange(2), 10);
        dear.set(4, 0);
        Due.is("bestChange behind set", dear.bestChange(2), Due.NONE);
    }

    private static void bestChangeIs(RepeatNests x, String due) {
        Due.same("bestChange of " + Due.rowOf(x), Due.bestChangeOf(x), due);
    }

    /** Promise 16. */
    private static void type() {
        RepeatNests x = new RepeatNests();
        Due.is("type(31)", x.type(31), Due.INVALID);
        Due.is("type(127)", x.type(127), Due.INVALID);
        Due.is("type(-1)", x.type(-1), Due.INVALID);
        Due.is("type(32)", x.type(32), 1);
        Due.is("type(126)", x.type(126), 2);
        for (int many = 3; many <= 60; many++) {
            Due.is("type", x.type('a'), many);
        }
        Due.is("type a 61st", x.type('a'), Due.LIMIT);
        Due.is("type a wrong 61st", x.type(31), Due.INVALID);
        Due.is("type is no change", x.count(2), 0);
    }

    /** Promise 17. */
    private static void clearText() {
        RepeatNests x = Due.typed("2(ab)");
        Due.is("clearText", x.clearText(), 5);
        Due.is("clearText again", x.clearText(), 0);
        Due.same("fault of the cleared text", Due.faultOf(x), "0 1");
        Due.type(x, "c");
        Due.same("typed behind clearText", Due.toldOf(x), "c");
        Due.is("clearText is no change", x.count(2), 0);
    }

    /** Promise 18, reason 1. */
    private static void faultNotAllowed() {
        faultIs("", "0 1");
        faultIs("e", "0 1");
        faultIs(" a", "0 1");
        faultIs("A", "0 1");
        faultIs("a ", "1 1");
        faultIs("0(a)", "0 1");
        faultIs("2", "1 1");
        faultIs("25", "2 1");
        faultIs("2a", "1 1");
        faultIs("25a", "2 1");
        faultIs("100(a)", "2 1");
        faultIs("2(", "2 1");
        faultIs("2()", "2 1");
        faultIs("2(a", "3 1");
        faultIs("2(a[1,b])", "3 1");
        faultIs("a)", "1 1");
        faultIs("2(a))", "4 1");
        faultIs("a[0,b]", "1 1");
        faultIs("[1,b]", "0 1");
        faultIs("2(a)[", "5 1");
        faultIs("2(a)[,b]", "5 1");
        faultIs("2(a)[1", "6 1");
        faultIs("2(a)[1b]", "6 1");
        faultIs("2(a)[01,b]", "6 1");
        faultIs("2(a)[123,b]", "7 1");
        faultIs("2(a)[1,", "7 1");
        faultIs("2(a)[1,e]", "7 1");
        faultIs("2(a)[1,]", "7 1");
        faultIs("2(a)[1,b", "8 1");
        faultIs("2(a)[1,bb]", "8 1");
        faultIs("2(a)[1,b]]", "9 1");
        faultIs("2(2(2(2(2(2(2(2(2(2(2(2(2(2(2(2(2(2(2(2(2(2(2(2(2(2(2(2(2(2(", "60 1");
        faultIs("2(2(2(2(2(2(2(2(2(2(2(2(2(2(2(2(2(2(2(2(2(2(2(2(2(2(2(2(2(2a", "59 1");
    }

    /** Promise 18, reasons 2 to 4, which is told first, and no fault. */
    private static void faultOthers() {
        faultIs("1(a)", "0 2");
        faultIs("ab1(", "2 2");
        faultIs("25(", "0 2");
        faultIs("a99(a)", "1 2");
        faultIs("2(1(a))", "2 2");
        faultIs("10(a)", "none");
        faultIs("24(a)", "none");
        faultIs("2(ab)[1,c]", "5 3");
        faultIs("2(ab)[4,c]", "5 3");
        faultIs("2(ab)[99,c]", "5 3");
        faultIs("2(ab)[3,b]", "5 3");
        faultIs("2(ab)[3,c][3,d]", "10 3");
        faultIs("2(ab)[3,c][2,d]", "10 3");
        faultIs("2(ab)[2,c][3,d]", "none");
        faultIs("2(ab)[0,c", "9 1");
        faultIs("2(2(a)[1,b])[3,b]", "12 3");
        faultIs("2(2(a)[1,b])[3,a]", "none");
        faultIs("3(ab)[4,b][5,a]c2(a)", "none");
        faultIs("aaaaaaaaaaaaaaaaaaaaaaaaa", "24 4");
        faultIs("aaaaaaaaaaaaaaaaaaaaaaaa", "none");
        faultIs("13(aa)", "0 4");
        faultIs("12(aa)", "none");
        faultIs("12(aa)b", "6 4");
        faultIs("b12(aa)", "1 4");
        faultIs("b12(aa)[1,a", "1 4");
        faultIs("24(24(a))", "0 4");
        faultIs("24(24(a)b)", "8 4");
        faultIs("24(24(a)2(b))", "8 4");
        faultIs("2(7(ab))", "0 4");
        faultIs("2(6(ab))", "none");
        faultIs("2(2(2(2(2(a)))))", "0 4");
        faultIs("2(2(2(3(a))))", "none");
        faultIs("20(2(a)", "7 1");
        faultIs("20(2(a))e", "0 4");
        RepeatNests x = Due.typed("25(");
        Due.is("fault(-1)", x.fault(-1), Due.INVALID);
        Due.is("fault(2)", x.fault(2), Due.INVALID);
        Due.is("fault(2) without a fault", Due.typed("a").fault(2), Due.INVALID);
        x.set(4, 0);
        x.set(3, 0);
        x.clearText();
        Due.type(x, "2(2(2(a)))2(a)[1,b]");
        Due.is("settings do not matter", x.fault(0), Due.NONE);
    }

    private static void faultIs(String text, String due) {
        String wanted = due.equals("none") ? Due.NONE + " " + Due.NONE : due;
        Due.same("fault of " + text, Due.faultOf(Due.typed(text)), wanted);
    }

    /** Promise 19. */
    private static void told() {
        toldIs("a", "2 1 0 0 0", "a");
        toldIs("3(ab)[3,c]2(2(a)b)", "20 12 2 1 1", "abacabaabaab");
        toldIs("2(2(a)[1,b])[2,b][3,c]d", "3 + 3 + 2 + 9 + 2", "abbcd", 5, 2, 3, 2);
        toldIs("2(a)2(b)[1,c]2(c)[1,a]", "3 + 3 + 3 + 6 + 6", "aabcca", 6, 1, 2, 1);
        toldIs("4(a)[1,b][2,c][3,d]b2(c)[1,a]", "3 + 2 + 9 + 2 + 3 + 2 + 3", "abcdbca", 7, 1, 4, 3);
        RepeatNests x = Due.typed("2(ab)");
        Due.is("told(5) of another row", x.told(5), 0);
        Due.append(x, "aba");
        Due.is("told(5) of a shorter row", x.told(5), 0);
        x.append(1);
        Due.is("told(5) of the row", x.told(5), 1);
        x.append(1);
        Due.is("told(5) of a longer row", x.told(5), 0);
        x.set(0, 9);
        x.set(1, 20);
        Due.is("told(0) by the prices as they are", x.told(0), 38);
        Due.is("told(103)", x.told(103), 1);
        Due.is("told(104)", x.told(104), Due.NONE);
        Due.is("told(123)", x.told(123), Due.NONE);
        int[] wrong = {-1, 6, 99, 124, Integer.MIN_VALUE, Integer.MAX_VALUE};
        for (int what : wrong) {
            Due.is("told(" + what + ")", x.told(what), Due.INVALID);
            Due.is("told(" + what + ") with a fault", Due.typed("2").told(what), Due.INVALID);
        }
        Due.is("told(0) with a fault", Due.typed("2").told(0), Due.IMPOSSIBLE);
        Due.is("told(100) with a fault", Due.typed("a)").told(100), Due.IMPOSSIBLE);
        Due.is("told(123) with a fault", Due.typed("a)").told(123), Due.IMPOSSIBLE);
        Due.is("told(123) of 24 letters", Due.typed("24(d)").told(123), 3);
    }

    private static void toldIs(String text, String measures, String letters) {
        RepeatNests x = Due.typed(text);
        Due.same("told of " + text, Due.measuresOf(x), measures);
        Due.same("letters told of " + text, Due.toldOf(x), letters);
    }

    /** The price is told as a sum; then letters, depth, corrections, most corrections of a repeat. */
    private static void toldIs(String text, String sum, String letters, int size, int depth, int corrections, int most) {
        int price = 0;
        for (String part : sum.split(" \\+ ")) {
            price += Integer.parseInt(part);
        }
        toldIs(text, price + " " + size + " " + depth + " " + corrections + " " + most, letters);
    }

    /** Promise 20. */
    private static void adopt() {
        RepeatNests x = Due.row("dd");
        Due.is("adopt of an empty text", x.adopt(), Due.IMPOSSIBLE);
        Due.type(x, "3(ab)[5,c]");
        Due.is("adopt", x.adopt(), 6);
        Due.same("adopted", Due.rowOf(x), "ababac");
        Due.is("the text stays", x.count(3), 10);
        Due.is("told(5) of the adopted row", x.told(5), 1);
        Due.is("adopt again is a change", x.adopt(), 6);
        Due.is("undo of adopt", x.undo(), 3);
        Due.is("undo of adopt", x.undo(), 2);
        Due.same("the row ahead of adopt", Due.rowOf(x), "dd");
        Due.is("the text stays behind undo", x.count(3), 10);
        x.type('(');
        Due.is("adopt with a fault", x.adopt(), Due.IMPOSSIBLE);
        Due.is("no change with a fault", x.count(2), 2);
        RepeatNests full = Due.typed("24(b)");
        Due.is("adopt 24", full.adopt(), 24);
        Due.is("append to 24", full.append(0), Due.LIMIT);
        full.clearText();
        full.type('c');
        Due.is("adopt 1", full.adopt(), 1);
        Due.same("a shorter row adopted", Due.rowOf(full), "c");
    }

    /** Promise 21. */
    private static void count() {
        RepeatNests x = Due.row("aabb");
        Due.type(x, "xyz");
        Due.is("count(0)", x.count(0), 4);
        Due.is("count(1)", x.count(1), 2);
        Due.is("count(2)", x.count(2), 4);
        Due.is("count(3)", x.count(3), 3);
        x.change(1, 1);
        Due.is("count(1) behind a change", x.count(1), 1);
        x.undo();
        Due.is("count(1) behind undo", x.count(1), 2);
        Due.is("count(2) behind undo", x.count(2), 3);
        for (int what = 0; what < 5; what++) {
            x.set(what, what + 1 > 4 ? 4 : what + 1);
        }
        for (int what = 0; what < 5; what++) {
            Due.is("count(" + (20 + what) + ")", x.count(20 + what), what + 1 > 4 ? 4 : what + 1);
        }
        int[] wrong = {-1, 4, 19, 25, 100, Integer.MIN_VALUE, Integer.MAX_VALUE};
        for (int what : wrong) {
            Due.is("count(" + what + ")", x.count(what), Due.INVALID);
        }
    }

    /** Promise 22. */
    private static void undo() {
        RepeatNests x = new RepeatNests();
        Due.is("undo of none", x.undo(), Due.IMPOSSIBLE);
        Due.append(x, "abcdab");
        Due.is("at most 4 states", x.count(2), 4);
        x.set(0, 7);
        x.turn();
        x.cut(2);
        x.change(0, 3);
        Due.same("ahead of undo", Due.rowOf(x), "dadc");
        Due.is("undo change", x.undo(), 3);
        Due.same("undo change", Due.rowOf(x), "badc");
        Due.is("undo cut", x.undo(), 2);
        Due.same("undo cut", Due.rowOf(x), "badcba");
        Due.is("undo turn", x.undo(), 1);
        Due.same("undo turn", Due.rowOf(x), "abcdab");
        Due.is("the setting stays", x.count(20), 7);
        Due.is("undo set", x.undo(), 0);
        Due.is("undo set", x.count(20), 2);
        Due.is("the oldest ones are dropped", x.undo(), Due.IMPOSSIBLE);
        Due.same("the row behind a refused undo", Due.rowOf(x), "abcdab");
        x.append(9);
        x.cut(0);
        x.set(0, 0);
        x.type('a');
        x.cheapest(0, 6, 3);
        x.bestChange(0);
        Due.is("errors and questions are no changes", x.count(2), 0);
        x.append(3);
        Due.is("undo append", x.undo(), 0);
        Due.same("undo append", Due.rowOf(x), "abcdab");
        Due.is("the text is not undone", x.count(3), 1);
    }

    private static void wrongParts(String name, RepeatNests x, int which) {
        int size = x.count(0);
        int[][] parts = {{-1, 1}, {0, 0}, {2, 1}, {size, size}, {0, size + 1}, {size, size + 1}, {0, 25},
            {Integer.MIN_VALUE, 1}, {0, Integer.MAX_VALUE}, {Integer.MIN_VALUE, Integer.MAX_VALUE}};
        for (int[] part : parts) {
            long got = which == 0 ? x.unlike(part[0], part[1], 1) : which == 1 ? x.period(part[0], part[1])
                : which == 2 ? x.cheapest(part[0], part[1], 0) : x.descriptions(part[0], part[1]);
            Due.is(name + " of " + part[0] + " to " + part[1], got, Due.INVALID);
        }
    }
}
