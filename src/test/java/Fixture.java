/** Objects in the states that the tests need, and the sizes that follow from a width. */
final class Fixture {
    static final int MIN = Integer.MIN_VALUE;
    static final int MAX = Integer.MAX_VALUE;
    static final int TERMS = 28;
    static final int TESTS = 16;
    static final int CONSTRAINTS = 10;

    private Fixture() {
    }

    /** 2^w. */
    static int words(int w) {
        int[] words = {1, 2, 4, 8, 16};
        return words[w];
    }

    /** 2^w - 1. */
    static int lastWord(int w) {
        return words(w) - 1;
    }

    /** 2^(3*w) - 1. */
    static int lastNumber(int w) {
        int[] lasts = {0, 7, 63, 511, 4095};
        return lasts[w];
    }

    static int numberOf(int w, int x0, int x1, int x2) {
        return (x0 * words(w) + x1) * words(w) + x2;
    }

    /** Numbers not in low .. high: next to it, far from it, and some that a narrow cast brings back. */
    static int[] outside(int low, int high) {
        return new int[] {MIN, MIN + 1, low - 65536, low - 256, low - 1,
            high + 1, high + 256, high + 65536, MAX - 1, MAX};
    }

    /** Terms 0, 1, 2 are the variables. */
    static BitBlaster withVariables(int w) {
        return with(w, 3, 0, 0);
    }

    /** So many of each, the variables first; assignment 0 is always a solution. */
    static BitBlaster with(int w, int terms, int tests, int constraints) {
        BitBlaster x = new BitBlaster(w);
        for (int i = 0; i < terms; i++) {
            Check.due("the making of term " + i, makeTerm(x, i), i);
        }
        for (int i = 0; i < tests; i++) {
            Check.due("the making of test " + i, makeTest(x, i, terms), i);
        }
        for (int i = 0; i < constraints; i++) {
            int test = i % tests;
            Check.due("require " + i, x.require(test, x.holds(test, 0)), i + 1);
        }
        return x;
    }

    private static int makeTerm(BitBlaster x, int i) {
        if (i < 3) {
            return x.variable(i);
        }
        switch (i < 7 ? 0 : i % 4) {
            case 0:
                return x.constant(i - 2);
            case 1:
                return x.combine(i % 6, i - 1, i - 3);
            case 2:
                return x.invert(i - 2);
            default:
                return x.shift(i - 3, i % 9 - 4);
        }
    }

    /** With 7 terms the first tests are of a variable and a constant, so each constraint matters. */
    private static int makeTest(BitBlaster x, int i, int terms) {
        if (terms >= 7 && i < 10) {
            return x.compare(BitBlaster.EQUAL, i % 3, 3 + i / 3);
        }
        return i < 8 ? x.compare(i % 3, i % terms, (i + 1) % terms) : x.connect(i % 3, i - 8, i - 7);
    }

    /** 5 terms and 2 tests, and a test with both signs among the 3 constraints. */
    static BitBlaster withoutSolution(int w) {
        BitBlaster x = with(w, 5, 2, 1);
        x.require(1, 1);
        x.require(1, 0);
        return x;
    }

    /** Makes the test that holds under this assignment alone; the terms 0, 1, 2 are the variables. */
    static int onlyUnder(BitBlaster x, int number) {
        int words = words(x.width());
        int first = x.compare(BitBlaster.EQUAL, 0, x.constant(number / words / words));
        int second = x.compare(BitBlaster.EQUAL, 1, x.constant(number / words % words));
        int third = x.compare(BitBlaster.EQUAL, 2, x.constant(number % words));
        int both = x.connect(0, first, second);
        return x.connect(0, both, third);
    }

    /** The variables, and one constraint, so that this assignment is the only solution. */
    static BitBlaster withOneSolution(int w, int number) {
        BitBlaster x = withVariables(w);
        x.require(onlyUnder(x, number), 1);
        return x;
    }
}
