import java.util.Random;

/** Arguments of all kinds, in many states: nothing is thrown, and a call that returns an error changes nothing. */
public final class ArgumentsTest {
    private static final int[] ARGUMENTS = {Integer.MIN_VALUE, Integer.MIN_VALUE + 1, -1000003, -101, -25, -2, -1, 0, 1, 2,
        3, 4, 5, 6, 7, 8, 12, 20, 23, 24, 25, 31, 32, 40, 41, 44, 48, 49, 50, 60, 91, 93, 97, 98, 99, 100, 101, 123, 124, 126,
        127, 1000, Integer.MAX_VALUE - 24, Integer.MAX_VALUE - 1, Integer.MAX_VALUE};
    private static final int CALLS = 21;

    private ArgumentsTest() {
    }

    public static void main(String[] args) {
        String[] rows = {"", "a", "ab", "aabaab", "abcdabcdabcdabcdabcdabcd", "aaaaaaaaaaaaaaaaaaaaaaaa"};
        String[] texts = {"", "2(ab)", "2(ab", "24(24(a))", "2(2(2(2(2(2(2(2(2(2(2(2(2(2(2(2(2(2(2(2(2(2(2(2(2(2(2(2(2(2(",
            "aaaaaaaaaaaaaaaaaaaaaaaaa", "2(a)[1,b", "12(a)[1,b][2,b][3,b][4,b][5,b][6,b][7,b][8,b][9,b][10,b]"};
        for (String row : rows) {
            for (String text : texts) {
                eachCall(row, text);
            }
        }
        for (int seed = 0; seed < 400; seed++) {
            randomCalls(new Random(seed), seed);
        }
        Due.end();
    }

    private static void eachCall(String row, String text) {
        for (int call = 0; call < CALLS; call++) {
            for (int one : ARGUMENTS) {
                RepeatNests x = Due.row(row);
                Due.type(x, text);
                for (int other : takesMore(call) ? ARGUMENTS : new int[] {1}) {
                    check("row " + row + ", text " + text, x, call, one, other, 1);
                }
            }
        }
    }

    private static void randomCalls(Random random, int seed) {
        RepeatNests x = new RepeatNests();
        for (int many = 0; many < 512; many++) {
            int one = random.nextInt(3) == 0 ? ARGUMENTS[random.nextInt(ARGUMENTS.length)] : random.nextInt(26);
            int other = random.nextInt(3) == 0 ? ARGUMENTS[random.nextInt(ARGUMENTS.length)] : random.nextInt(26);
            int third = random.nextInt(3) == 0 ? ARGUMENTS[random.nextInt(ARGUMENTS.length)] : random.nextInt(8);
            check("seed " + seed, x, random.nextInt(CALLS), one, other, third);
        }
    }

    private static boolean takesMore(int call) {
        return call == 2 || call == 4 || call >= 6 && call <= 9 || call == 11 || call == 12;
    }

    private static void check(String where, RepeatNests x, int call, int one, int other, int third) {
        String before = Due.seen(x);
        String name = where + ", call " + call + "(" + one + ", " + other + ", " + third + ")";
        try {
            long answer = answer(x, call, one, other, third);
            if (answer < 0) {
                Due.holds(name + " answers an error of the document", answer >= Due.NONE && answer <= Due.INVALID);
                Due.same(name + " changes nothing", Due.seen(x), before);
            } else if (call >= 5 && call <= 12 || call >= 15 && call <= 17 || call == 19) {
                Due.same(name + " changes nothing, as it only asks", Due.seen(x), before);
            }
        } catch (RuntimeException thrown) {
            Due.same(name, thrown.toString(), "no exception");
        }
    }

    private static long answer(RepeatNests x, int call, int one, int other, int third) {
        switch (call) {
            case 0: return x.append(one);
            case 1: return x.cut(one);
            case 2: return x.change(one, other);
            case 3: return x.turn();
            case 4: return x.set(one, other);
            case 5: return x.letterAt(one);
            case 6: return x.unlike(one, other, third);
            case 7: return x.period(one, other);
            case 8: return x.runOf(one, other);
            case 9: return x.cheapest(one, other, third);
            case 10: return x.textAt(one);
            case 11: return x.descriptions(one, other);
            case 12: return x.would(one, other);
            case 13: return x.type(one);
            case 14: return x.clearText();
            case 15: return x.bestChange(one);
            case 16: return x.fault(one);
            case 17: return x.told(one);
            case 18: return x.adopt();
            case 19: return x.count(one);
            default: return x.undo();
        }
    }
}
