/**
 * Constraints on three small words of bits: solutions in order, counts, extremes and consequences.
 *
 * There are at most 4096 assignments, so each term and each test is worked out under all of them
 * when it is made. Questions then only look answers up, and a term that chooses by a test needs no
 * order of evaluation.
 */
public final class BitBlaster {
    public static final int ADD = 0;
    public static final int SUB = 1;
    public static final int MUL = 2;
    public static final int AND = 3;
    public static final int OR = 4;
    public static final int XOR = 5;
    public static final int EQUAL = 0;
    public static final int LESS = 1;
    public static final int SIGNED_LESS = 2;

    private static final int BOTH = 0;
    private static final int AT_LEAST_ONE = 1;
    private static final int JUST_ONE = 2;

    private static final int MIN_WIDTH = 1;
    private static final int MAX_WIDTH = 4;
    private static final int VARIABLES = 3;
    private static final int MAX_SHIFT = 4;
    private static final int MAX_TERMS = 28;
    private static final int MAX_TESTS = 16;
    private static final int MAX_CONSTRAINTS = 10;

    /** A row of a table has room for every assignment of the greatest width. */
    private static final int ROW = 1 << (VARIABLES * MAX_WIDTH);
    private static final int WORD_CELLS = MAX_TERMS * ROW;
    private static final int TRUTH_CELLS = MAX_TESTS * ROW;

    private final byte[] words = new byte[WORD_CELLS];
    private final boolean[] truths = new boolean[TRUTH_CELLS];
    private final int[] constraintTest = new int[MAX_CONSTRAINTS];
    private final boolean[] constraintSign = new boolean[MAX_CONSTRAINTS];

    private final int width;
    private final int mask;
    private final int assignments;
    private int termCount;
    private int testCount;
    private int constraintCount;

    public BitBlaster(int width) {
        this.width = width < MIN_WIDTH ? MIN_WIDTH : width > MAX_WIDTH ? MAX_WIDTH : width;
        this.mask = (1 << this.width) - 1;
        this.assignments = 1 << (VARIABLES * this.width);
    }

    public int width() {
        return width;
    }

    public int variable(int v) {
        if (v < 0 || v >= VARIABLES) {
            return -1;
        }
        if (termCount == MAX_TERMS) {
            return -2;
        }
        // Variable 0 stands in the highest bits of an assignment's number.
        int lowestBit = (VARIABLES - 1 - v) * width;
        for (int number = 0; number < assignments; number++) {
            setNewWord(number, number >> lowestBit);
        }
        return addTerm();
    }

    public int constant(int value) {
        if (termCount == MAX_TERMS) {
            return -2;
        }
        for (int number = 0; number < assignments; number++) {
            setNewWord(number, value);
        }
        return addTerm();
    }

    public int combine(int kind, int a, int b) {
        if (kind < ADD || kind > XOR) {
            return -1;
        }
        if (termCount == MAX_TERMS) {
            return -2;
        }
        if (!isTerm(a) || !isTerm(b)) {
            return -3;
        }
        for (int number = 0; number < assignments; number++) {
            int x = wordAt(a, number);
            int y = wordAt(b, number);
            int word = combineWords(kind, x, y);
            setNewWord(number, word);
        }
        return addTerm();
    }

    public int invert(int a) {
        if (termCount == MAX_TERMS) {
            return -2;
        }
        if (!isTerm(a)) {
            return -3;
        }
        for (int number = 0; number < assignments; number++) {
            int x = wordAt(a, number);
            setNewWord(number, ~x);
        }
        return addTerm();
    }

    public int shift(int a, int by) {
        if (by < -MAX_SHIFT || by > MAX_SHIFT) {
            return -1;
        }
        if (termCount == MAX_TERMS) {
            return -2;
        }
        if (!isTerm(a)) {
            return -3;
        }
        for (int number = 0; number < assignments; number++) {
            int x = wordAt(a, number);
            setNewWord(number, by >= 0 ? x << by : x >> -by);
        }
        return addTerm();
    }

    public int choose(int test, int a, int b) {
        if (!isTest(test)) {
            return -1;
        }
        if (termCount == MAX_TERMS) {
            return -2;
        }
        if (!isTerm(a) || !isTerm(b)) {
            return -3;
        }
        for (int number = 0; number < assignments; number++) {
            int chosen = truthAt(test, number) ? a : b;
            int word = wordAt(chosen, number);
            setNewWord(number, word);
        }
        return addTerm();
    }

    public int compare(int kind, int a, int b) {
        if (kind < EQUAL || kind > SIGNED_LESS) {
            return -1;
        }
        if (testCount == MAX_TESTS) {
            return -2;
        }
        if (!isTerm(a) || !isTerm(b)) {
            return -3;
        }
        for (int number = 0; number < assignments; number++) {
            int x = wordAt(a, number);
            int y = wordAt(b, number);
            boolean truth = compareWords(kind, x, y);
            setNewTruth(number, truth);
        }
        return addTest();
    }

    public int connect(int kind, int s, int t) {
        if (kind < BOTH || kind > JUST_ONE) {
            return -1;
        }
        if (testCount == MAX_TESTS) {
            return -2;
        }
        if (!isTest(s) || !isTest(t)) {
            return -3;
        }
        for (int number = 0; number < assignments; number++) {
            boolean p = truthAt(s, number);
            boolean q = truthAt(t, number);
            boolean truth = connectTruths(kind, p, q);
            setNewTruth(number, truth);
        }
        return addTest();
    }

    public int require(int test, int sign) {
        if (!isTest(test)) {
            return -1;
        }
        if (constraintCount == MAX_CONSTRAINTS) {
            return -2;
        }
        constraintTest[constraintCount] = test;
        constraintSign[constraintCount] = sign != 0;
        constraintCount++;
        return constraintCount;
    }

    public int release() {
        if (constraintCount == 0) {
            return -1;
        }
        constraintCount--;
        return constraintCount;
    }

    public int terms() {
        return termCount;
    }

    public int tests() {
        return testCount;
    }

    public int valueOf(int term, int number) {
        if (!isTerm(term)) {
            return -1;
        }
        if (!isAssignment(number)) {
            return -2;
        }
        return wordAt(term, number);
    }

    public int holds(int test, int number) {
        if (!isTest(test)) {
            return -1;
        }
        if (!isAssignment(number)) {
            return -2;
        }
        return truthAt(test, number) ? 1 : 0;
    }

    public int solvable() {
        return firstSolutionFrom(0) >= 0 ? 1 : 0;
    }

    public int next(int after) {
        // Looked at first, because after + 1 wraps around for the greatest int.
        if (after >= assignments) {
            return -1;
        }
        int start = after < 0 ? 0 : after + 1;
        return firstSolutionFrom(start);
    }

    public int count() {
        int solutions = 0;
        for (int number = 0; number < assignments; number++) {
            if (isSolution(number)) {
                solutions++;
            }
        }
        return solutions;
    }

    public int least(int term) {
        if (!isTerm(term)) {
            return -1;
        }
        int aboveAllWords = mask + 1;
        int least = aboveAllWords;
        for (int number = 0; number < assignments; number++) {
            int word = wordAt(term, number);
            if (word < least && isSolution(number)) {
                least = word;
            }
        }
        return least == aboveAllWords ? -2 : least;
    }

    public int greatest(int term) {
        if (!isTerm(term)) {
            return -1;
        }
        int belowAllWords = -1;
        int greatest = belowAllWords;
        for (int number = 0; number < assignments; number++) {
            int word = wordAt(term, number);
            if (word > greatest && isSolution(number)) {
                greatest = word;
            }
        }
        return greatest == belowAllWords ? -2 : greatest;
    }

    public int follows(int test) {
        if (!isTest(test)) {
            return -1;
        }
        boolean somewhereTrue = false;
        boolean somewhereFalse = false;
        for (int number = 0; number < assignments; number++) {
            if (isSolution(number)) {
                boolean truth = truthAt(test, number);
                somewhereTrue = somewhereTrue || truth;
                somewhereFalse = somewhereFalse || !truth;
            }
        }
        // Without any solution the test holds under all of them, so this case goes first.
        if (!somewhereFalse) {
            return 1;
        }
        return somewhereTrue ? 2 : 0;
    }

    public int same(int a, int b) {
        if (!isTerm(a) || !isTerm(b)) {
            return -1;
        }
        for (int number = 0; number < assignments; number++) {
            if (wordAt(a, number) != wordAt(b, number)) {
                return 0;
            }
        }
        return 1;
    }

    private boolean isTerm(int term) {
        return term >= 0 && term < termCount;
    }

    private boolean isTest(int test) {
        return test >= 0 && test < testCount;
    }

    private boolean isAssignment(int number) {
        return number >= 0 && number < assignments;
    }

    private int wordAt(int term, int number) {
        return words[term * ROW + number];
    }

    private boolean truthAt(int test, int number) {
        return truths[test * ROW + number];
    }

    /** Writes into the row after the last term, which counts as a term only after addTerm. */
    private void setNewWord(int number, int value) {
        words[termCount * ROW + number] = (byte) (value & mask);
    }

    /** Writes into the row after the last test, which counts as a test only after addTest. */
    private void setNewTruth(int number, boolean truth) {
        truths[testCount * ROW + number] = truth;
    }

    private int addTerm() {
        termCount++;
        return termCount - 1;
    }

    private int addTest() {
        testCount++;
        return testCount - 1;
    }

    /** The answer may lie outside the words: setNewWord brings it back modulo 2^w. */
    private static int combineWords(int kind, int x, int y) {
        switch (kind) {
            case ADD:
                return x + y;
            case SUB:
                return x - y;
            case MUL:
                return x * y;
            case AND:
                return x & y;
            case OR:
                return x | y;
            default:
                return x ^ y;
        }
    }

    private boolean compareWords(int kind, int x, int y) {
        switch (kind) {
            case EQUAL:
                return x == y;
            case LESS:
                return x < y;
            default:
                return signed(x) < signed(y);
        }
    }

    private int signed(int word) {
        int signBit = 1 << (width - 1);
        return word >= signBit ? word - (mask + 1) : word;
    }

    private static boolean connectTruths(int kind, boolean p, boolean q) {
        switch (kind) {
            case BOTH:
                return p && q;
            case AT_LEAST_ONE:
                return p || q;
            default:
                return p != q;
        }
    }

    private boolean isSolution(int number) {
        for (int i = 0; i < constraintCount; i++) {
            if (truthAt(constraintTest[i], number) != constraintSign[i]) {
                return false;
            }
        }
        return true;
    }

    private int firstSolutionFrom(int start) {
        for (int number = start; number < assignments; number++) {
            if (isSolution(number)) {
                return number;
            }
        }
        return -1;
    }
}
