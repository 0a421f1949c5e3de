/** Each promise by itself: ordinary inputs, the edges that the document names, wrong inputs. */
public final class PromisesTest {
    private static final int MIN = Integer.MIN_VALUE;
    private static final int MAX = Integer.MAX_VALUE;

    public static void main(String[] args) {
        newObject();
        width();
        variable();
        constant();
        combine();
        invert();
        shift();
        choose();
        compare();
        connect();
        require();
        release();
        terms();
        tests();
        valueOf();
        holds();
        solvable();
        next();
        count();
        least();
        greatest();
        follows();
        same();
        questionsOfOneSolution();
        Check.end();
    }

    /** Terms 0, 1, 2 are the variables. */
    private static BitBlaster withVariables(int width) {
        BitBlaster x = new BitBlaster(width);
        for (int v = 0; v < 3; v++) {
            x.variable(v);
        }
        return x;
    }

    private static BitBlaster withFullTerms(int width) {
        BitBlaster x = withVariables(width);
        for (int i = 3; i < 28; i++) {
            Check.due("constant before the terms are full", x.constant(i), i);
        }
        return x;
    }

    /** Test 0 is x0 < x1, the others x0 = x1. */
    private static BitBlaster withFullTests(int width) {
        BitBlaster x = withVariables(width);
        x.compare(BitBlaster.LESS, 0, 1);
        for (int i = 1; i < 16; i++) {
            Check.due("compare before the tests are full", x.compare(BitBlaster.EQUAL, 0, 1), i);
        }
        return x;
    }

    private static int numberOf(int width, int x0, int x1, int x2) {
        int size = sizeOf(width);
        return (x0 * size + x1) * size + x2;
    }

    private static int sizeOf(int width) {
        int[] sizes = {1, 2, 4, 8, 16};
        return sizes[width];
    }

    private static int signed(int width, int word) {
        return word * 2 >= sizeOf(width) ? word - sizeOf(width) : word;
    }

    private static void newObject() {
        BitBlaster x = new BitBlaster(3);
        Check.due("terms of a new object", x.terms(), 0);
        Check.due("tests of a new object", x.tests(), 0);
        Check.due("constraints of a new object", x.release(), -1);
        int[] widths = {MIN, -1, 0, 1, 2, 3, 4, 5, 32, MAX};
        int[] counts = {8, 8, 8, 8, 64, 512, 4096, 4096, 4096, 4096};
        for (int i = 0; i < widths.length; i++) {
            Check.due("count of a new object, width " + widths[i],
                new BitBlaster(widths[i]).count(), counts[i]);
        }
        BitBlaster one = withVariables(2);
        BitBlaster other = withVariables(2);
        one.compare(BitBlaster.LESS, 0, 1);
        one.require(0, 1);
        Check.due("tests of an object beside another", other.tests(), 0);
        Check.due("count of an object beside another", other.count(), 64);
    }

    private static void width() {
        int[] given = {MIN, -7, 0, 1, 2, 3, 4, 5, 6, MAX};
        int[] want = {1, 1, 1, 1, 2, 3, 4, 4, 4, 4};
        for (int i = 0; i < given.length; i++) {
            Check.due("width() after " + given[i], new BitBlaster(given[i]).width(), want[i]);
        }
    }

    private static void variable() {
        for (int w = 1; w <= 4; w++) {
            for (int x0 = 0; x0 < sizeOf(w); x0++) {
                for (int x1 = 0; x1 < sizeOf(w); x1++) {
                    variableUnder(w, x0, x1);
                }
            }
        }
        BitBlaster x = new BitBlaster(2);
        int[] bad = {MIN, -1, 3, 4, MAX};
        for (int v : bad) {
            Check.due("variable(" + v + ")", x.variable(v), -1);
        }
        Check.due("terms() after refusals", x.terms(), 0);
        Check.due("variable(2)", x.variable(2), 0);
        Check.due("variable(2) again", x.variable(2), 1);
        Check.due("variable(0)", x.variable(0), 2);
        BitBlaster full = withFullTerms(2);
        Check.due("variable(0), full", full.variable(0), -2);
        Check.due("variable(3), full", full.variable(3), -1);
        Check.due("terms(), full", full.terms(), 28);
    }

    private static void variableUnder(int w, int x0, int x1) {
        BitBlaster x = withVariables(w);
        for (int x2 = 0; x2 < sizeOf(w); x2++) {
            int number = numberOf(w, x0, x1, x2);
            Check.due("variable 0 under " + number, x.valueOf(0, number), x0);
            Check.due("variable 1 under " + number, x.valueOf(1, number), x1);
            Check.due("variable 2 under " + number, x.valueOf(2, number), x2);
        }
    }

    private static void constant() {
        int[] values = {0, 1, 2, 3, 7, 8, 15, 16, 17, 255, -1, -2, -8, -15, -16, -17, MIN, MIN + 5, MAX};
        for (int w = 1; w <= 4; w++) {
            BitBlaster x = new BitBlaster(w);
            for (int i = 0; i < values.length; i++) {
                Check.due("constant(" + values[i] + ")", x.constant(values[i]), i);
                int want = Math.floorMod(values[i], sizeOf(w));
                int last = numberOf(w, sizeOf(w) - 1, sizeOf(w) - 1, sizeOf(w) - 1);
                Check.due("constant " + values[i] + " under 0", x.valueOf(i, 0), want);
                Check.due("constant " + values[i] + " under the last", x.valueOf(i, last), want);
                Check.due("least of constant " + values[i], x.least(i), want);
                Check.due("greatest of constant " + values[i], x.greatest(i), want);
            }
        }
        BitBlaster full = withFullTerms(4);
        Check.due("constant, full", full.constant(0), -2);
        Check.due("terms(), full", full.terms(), 28);
    }

    private static int combined(int w, int kind, int a, int b) {
        int[] results = {a + b, a - b, a * b, a & b, a | b, a ^ b};
        return Math.floorMod(results[kind], sizeOf(w));
    }

    private static void combine() {
        for (int w = 1; w <= 4; w++) {
            for (int kind = 0; kind <= 5; kind++) {
                BitBlaster x = withVariables(w);
                Check.due("combine", x.combine(kind, 2, 0), 3);
                for (int a = 0; a < sizeOf(w); a++) {
                    for (int b = 0; b < sizeOf(w); b++) {
                        int number = numberOf(w, b, (a + b) % 2, a);
                        Check.due("kind " + kind + " of " + a + " and " + b + ", width " + w,
                            x.valueOf(3, number), combined(w, kind, a, b));
                    }
                }
            }
        }
        combineOfOneTermTwice();
        combineRefused();
    }

    private static void combineOfOneTermTwice() {
        BitBlaster x = withVariables(4);
        for (int kind = 0; kind <= 5; kind++) {
            int term = x.combine(kind, 1, 1);
            for (int a = 0; a < 16; a++) {
                Check.due("kind " + kind + " of " + a + " twice",
                    x.valueOf(term, numberOf(4, 3, a, 9)), combined(4, kind, a, a));
            }
        }
    }

    private static void combineRefused() {
        BitBlaster x = withVariables(3);
        Check.due("kind -1", x.combine(-1, 0, 0), -1);
        Check.due("kind 6", x.combine(6, 0, 0), -1);
        Check.due("kind MIN, bad terms", x.combine(MIN, -1, 9), -1);
        Check.due("kind MAX, bad terms", x.combine(MAX, 3, 3), -1);
        Check.due("a = -1", x.combine(0, -1, 0), -3);
        Check.due("a = 3", x.combine(0, 3, 0), -3);
        Check.due("a = MIN", x.combine(5, MIN, 0), -3);
        Check.due("b = -1", x.combine(0, 0, -1), -3);
        Check.due("b = 3", x.combine(5, 0, 3), -3);
        Check.due("b = MAX", x.combine(0, 0, MAX), -3);
        Check.due("terms() after refusals", x.terms(), 3);
        BitBlaster full = withFullTerms(3);
        Check.due("combine, full", full.combine(0, 0, 1), -2);
        Check.due("combine, full, bad terms", full.combine(0, 28, -1), -2);
        Check.due("combine, full, bad kind", full.combine(6, 0, 1), -1);
        Check.due("terms(), full", full.terms(), 28);
    }

    private static void invert() {
        for (int w = 1; w <= 4; w++) {
            BitBlaster x = withVariables(w);
            Check.due("invert(1)", x.invert(1), 3);
            Check.due("invert(3)", x.invert(3), 4);
            for (int a = 0; a < sizeOf(w); a++) {
                int number = numberOf(w, 0, a, 1);
                Check.due("invert of " + a, x.valueOf(3, number), sizeOf(w) - 1 - a);
                Check.due("invert twice of " + a, x.valueOf(4, number), a);
            }
            Check.due("invert(5)", x.invert(5), -3);
            Check.due("invert(-1)", x.invert(-1), -3);
            Check.due("invert(MIN)", x.invert(MIN), -3);
            Check.due("invert(MAX)", x.invert(MAX), -3);
            Check.due("terms() after refusals", x.terms(), 5);
        }
        BitBlaster full = withFullTerms(1);
        Check.due("invert, full", full.invert(0), -2);
        Check.due("invert, full, bad term", full.invert(28), -2);
        Check.due("terms(), full", full.terms(), 28);
    }

    private static int shifted(int w, int a, int by) {
        int value = a;
        for (int i = 0; i < by; i++) {
            value = value * 2 % sizeOf(w);
        }
        for (int i = 0; i > by; i--) {
            value = value / 2;
        }
        return value;
    }

    private static void shift() {
        for (int w = 1; w <= 4; w++) {
            BitBlaster x = withVariables(w);
            for (int by = -4; by <= 4; by++) {
                int term = x.shift(0, by);
                Check.due("shift(0, " + by + ")", term, 7 + by);
                for (int a = 0; a < sizeOf(w); a++) {
                    Check.due("shift of " + a + " by " + by + ", width " + w,
                        x.valueOf(term, numberOf(w, a, 1, 0)), shifted(w, a, by));
                }
            }
        }
        BitBlaster x = withVariables(2);
        int[] bad = {MIN, MIN + 1, -5, 5, 32, MAX};
        for (int by : bad) {
            Check.due("shift by " + by, x.shift(0, by), -1);
            Check.due("shift of a bad term by " + by, x.shift(9, by), -1);
        }
        Check.due("shift(-1, 4)", x.shift(-1, 4), -3);
        Check.due("shift(3, -4)", x.shift(3, -4), -3);
        Check.due("shift(MIN, 0)", x.shift(MIN, 0), -3);
        Check.due("shift(MAX, 0)", x.shift(MAX, 0), -3);
        Check.due("terms() after refusals", x.terms(), 3);
        BitBlaster full = withFullTerms(2);
        Check.due("shift, full", full.shift(0, 1), -2);
        Check.due("shift, full, bad term", full.shift(28, 1), -2);
        Check.due("shift, full, bad by", full.shift(0, 5), -1);
        Check.due("terms(), full", full.terms(), 28);
    }

    private static void choose() {
        for (int w = 1; w <= 4; w++) {
            BitBlaster x = withVariables(w);
            x.compare(BitBlaster.EQUAL, 0, 1);
            x.compare(BitBlaster.LESS, 0, 1);
            Check.due("choose(1, 2, 0)", x.choose(1, 2, 0), 3);
            for (int x0 = 0; x0 < sizeOf(w); x0++) {
                for (int x1 = 0; x1 < sizeOf(w); x1++) {
                    int x2 = (x0 + 1) % sizeOf(w);
                    Check.due("choice under " + x0 + ", " + x1 + ", " + x2,
                        x.valueOf(3, numberOf(w, x0, x1, x2)), x0 < x1 ? x2 : x0);
                }
            }
        }
        BitBlaster x = withVariables(2);
        Check.due("choose without a test", x.choose(0, 0, 1), -1);
        x.compare(BitBlaster.LESS, 0, 1);
        int[] bad = {MIN, -1, 3, MAX};
        for (int term : bad) {
            Check.due("choose(0, " + term + ", 0)", x.choose(0, term, 0), -3);
            Check.due("choose(0, 0, " + term + ")", x.choose(0, 0, term), -3);
            Check.due("choose(" + term + ", 0, 0)", x.choose(term, 0, 0), -1);
            Check.due("choose, all bad", x.choose(term, term, term), -1);
        }
        Check.due("choose(1, 0, 0)", x.choose(1, 0, 0), -1);
        Check.due("terms() after refusals", x.terms(), 3);
        chooseFull();
    }

    private static void chooseFull() {
        BitBlaster full = withFullTerms(2);
        full.compare(BitBlaster.LESS, 0, 1);
        Check.due("choose, full", full.choose(0, 0, 1), -2);
        Check.due("choose, full, bad terms", full.choose(0, 28, -1), -2);
        Check.due("choose, full, bad test", full.choose(1, 0, 1), -1);
        Check.due("terms(), full", full.terms(), 28);
    }

    private static boolean compared(int w, int kind, int a, int b) {
        boolean[] results = {a == b, a < b, signed(w, a) < signed(w, b)};
        return results[kind];
    }

    private static void compare() {
        for (int w = 1; w <= 4; w++) {
            for (int kind = 0; kind <= 2; kind++) {
                BitBlaster x = withVariables(w);
                Check.due("compare", x.compare(kind, 2, 0), 0);
                Check.due("compare again", x.compare(kind, 0, 0), 1);
                for (int a = 0; a < sizeOf(w); a++) {
                    for (int b = 0; b < sizeOf(w); b++) {
                        Check.due("kind " + kind + " of " + a + " and " + b + ", width " + w,
                            x.holds(0, numberOf(w, b, b / 2, a)), compared(w, kind, a, b) ? 1 : 0);
                    }
                    Check.due("kind " + kind + " of a term with itself",
                        x.holds(1, numberOf(w, a, 0, 0)), kind == 0 ? 1 : 0);
                }
            }
        }
        BitBlaster x = withVariables(2);
        int[] badKinds = {MIN, -1, 3, MAX};
        int[] badTerms = {MIN, -1, 3, MAX};
        for (int i = 0; i < 4; i++) {
            Check.due("compare, kind " + badKinds[i], x.compare(badKinds[i], 0, 1), -1);
            Check.due("compare, all bad", x.compare(badKinds[i], -1, 3), -1);
            Check.due("compare, a = " + badTerms[i], x.compare(2, badTerms[i], 0), -3);
            Check.due("compare, b = " + badTerms[i], x.compare(0, 0, badTerms[i]), -3);
        }
        Check.due("tests() after refusals", x.tests(), 0);
        BitBlaster full = withFullTests(2);
        Check.due("compare, full", full.compare(0, 0, 1), -2);
        Check.due("compare, full, bad terms", full.compare(0, -1, 3), -2);
        Check.due("compare, full, bad kind", full.compare(3, 0, 1), -1);
        Check.due("tests(), full", full.tests(), 16);
        BitBlaster fullTerms = withFullTerms(2);
        Check.due("compare when only the terms are full", fullTerms.compare(0, 27, 0), 0);
    }

    private static void connect() {
        BitBlaster x = withVariables(1);
        x.constant(1);
        x.compare(BitBlaster.EQUAL, 0, 3);
        x.compare(BitBlaster.EQUAL, 1, 3);
        for (int kind = 0; kind <= 2; kind++) {
            Check.due("connect", x.connect(kind, 0, 1), 2 + kind);
            Check.due("kind " + kind + ", neither", x.holds(2 + kind, 0), 0);
            Check.due("kind " + kind + ", second", x.holds(2 + kind, 2), kind == 0 ? 0 : 1);
            Check.due("kind " + kind + ", first", x.holds(2 + kind, 4), kind == 0 ? 0 : 1);
            Check.due("kind " + kind + ", both", x.holds(2 + kind, 6), kind == 2 ? 0 : 1);
        }
        for (int kind = 0; kind <= 2; kind++) {
            int test = x.connect(kind, 1, 1);
            Check.due("kind " + kind + ", one test twice, no", x.holds(test, 4), 0);
            Check.due("kind " + kind + ", one test twice, yes", x.holds(test, 2), kind == 2 ? 0 : 1);
        }
        int made = x.tests();
        int[] badKinds = {MIN, -1, 3, MAX};
        int[] badTests = {MIN, -1, made, MAX};
        for (int i = 0; i < 4; i++) {
            Check.due("connect, kind " + badKinds[i], x.connect(badKinds[i], 0, 1), -1);
            Check.due("connect, all bad", x.connect(badKinds[i], -1, made), -1);
            Check.due("connect, s = " + badTests[i], x.connect(0, badTests[i], 0), -3);
            Check.due("connect, t = " + badTests[i], x.connect(2, 0, badTests[i]), -3);
        }
        Check.due("tests() after refusals", x.tests(), made);
        BitBlaster full = withFullTests(4);
        Check.due("connect, full", full.connect(0, 0, 1), -2);
        Check.due("connect, full, bad tests", full.connect(0, -1, 16), -2);
        Check.due("connect, full, bad kind", full.connect(-1, 0, 1), -1);
        Check.due("tests(), full", full.tests(), 16);
    }

    private static void require() {
        BitBlaster x = withVariables(4);
        Check.due("require without a test", x.require(0, 1), -1);
        x.compare(BitBlaster.LESS, 0, 1);
        int[] signs = {1, -1, 2, 256, MIN, MAX};
        for (int sign : signs) {
            Check.due("require(0, " + sign + ")", x.require(0, sign), 1);
            Check.due("count() with sign " + sign, x.count(), 1920);
            Check.due("release()", x.release(), 0);
        }
        Check.due("require(0, 0)", x.require(0, 0), 1);
        Check.due("count() with sign 0", x.count(), 2176);
        int[] bad = {MIN, -1, 1, MAX};
        for (int test : bad) {
            Check.due("require(" + test + ", 0)", x.require(test, 0), -1);
        }
        Check.due("count() after refusals", x.count(), 2176);
        for (int i = 2; i <= 10; i++) {
            Check.due("require the same again", x.require(0, 0), i);
        }
        Check.due("require, full", x.require(0, 1), -2);
        Check.due("require, full, bad test", x.require(1, 1), -1);
        Check.due("count() when full", x.count(), 2176);
        Check.due("release() when full", x.release(), 9);
        Check.due("require after a release", x.require(0, 1), 10);
        Check.due("count() with both signs", x.count(), 0);
    }

    private static void release() {
        BitBlaster x = withVariables(2);
        Check.due("release() without a constraint", x.release(), -1);
        x.compare(BitBlaster.LESS, 0, 1);
        x.compare(BitBlaster.LESS, 1, 2);
        x.require(0, 1);
        x.require(1, 1);
        Check.due("count() with both", x.count(), 4);
        Check.due("release() of the last", x.release(), 1);
        Check.due("count() with the first", x.count(), 24);
        Check.due("follows(0)", x.follows(0), 1);
        Check.due("follows(1)", x.follows(1), 2);
        Check.due("release() of the first", x.release(), 0);
        Check.due("count() with none", x.count(), 64);
        Check.due("release() once more", x.release(), -1);
        Check.due("release() and again", x.release(), -1);
        Check.due("require after all that", x.require(1, 0), 1);
        Check.due("count() with the second turned", x.count(), 40);
        Check.due("tests() are kept", x.tests(), 2);
    }

    private static void terms() {
        BitBlaster x = new BitBlaster(3);
        Check.due("terms() at first", x.terms(), 0);
        x.variable(1);
        Check.due("terms() after variable", x.terms(), 1);
        x.constant(5);
        Check.due("terms() after constant", x.terms(), 2);
        x.combine(0, 0, 1);
        Check.due("terms() after combine", x.terms(), 3);
        x.invert(0);
        Check.due("terms() after invert", x.terms(), 4);
        x.shift(0, 1);
        Check.due("terms() after shift", x.terms(), 5);
        x.compare(0, 0, 1);
        Check.due("terms() after compare", x.terms(), 5);
        x.choose(0, 0, 1);
        Check.due("terms() after choose", x.terms(), 6);
        x.choose(1, 0, 1);
        Check.due("terms() after a refusal", x.terms(), 6);
        Check.due("terms() when full", withFullTerms(3).terms(), 28);
    }

    private static void tests() {
        BitBlaster x = withVariables(3);
        Check.due("tests() at first", x.tests(), 0);
        x.compare(1, 0, 1);
        Check.due("tests() after compare", x.tests(), 1);
        x.connect(1, 0, 0);
        Check.due("tests() after connect", x.tests(), 2);
        x.require(0, 1);
        Check.due("tests() after require", x.tests(), 2);
        x.connect(3, 0, 0);
        Check.due("tests() after a refusal", x.tests(), 2);
        x.release();
        Check.due("tests() after release", x.tests(), 2);
        Check.due("tests() when full", withFullTests(3).tests(), 16);
    }

    private static void valueOf() {
        int[] lasts = {7, 63, 511, 4095};
        for (int w = 1; w <= 4; w++) {
            BitBlaster x = withVariables(w);
            int last = lasts[w - 1];
            Check.due("valueOf(2, 0)", x.valueOf(2, 0), 0);
            Check.due("valueOf(0, last)", x.valueOf(0, last), sizeOf(w) - 1);
            int[] bad = {MIN, -1, last + 1, MAX};
            for (int number : bad) {
                Check.due("valueOf(2, " + number + ")", x.valueOf(2, number), -2);
                Check.due("valueOf(3, " + number + ")", x.valueOf(3, number), -1);
            }
            Check.due("valueOf(-1, 0)", x.valueOf(-1, 0), -1);
            Check.due("valueOf(3, 0)", x.valueOf(3, 0), -1);
            Check.due("valueOf(MIN, 0)", x.valueOf(MIN, 0), -1);
            Check.due("valueOf(MAX, 0)", x.valueOf(MAX, 0), -1);
            x.compare(BitBlaster.LESS, 0, 0);
            x.require(0, 1);
            Check.due("valueOf where nothing is a solution", x.valueOf(1, last), sizeOf(w) - 1);
        }
        BitBlaster full = withFullTerms(4);
        Check.due("valueOf(27, 4095)", full.valueOf(27, 4095), 11);
        Check.due("valueOf(28, 0)", full.valueOf(28, 0), -1);
    }

    private static void holds() {
        int[] lasts = {7, 63, 511, 4095};
        for (int w = 1; w <= 4; w++) {
            BitBlaster x = withVariables(w);
            int last = lasts[w - 1];
            Check.due("holds without a test", x.holds(0, 0), -1);
            x.compare(BitBlaster.LESS, 0, 2);
            Check.due("holds(0, 0)", x.holds(0, 0), 0);
            Check.due("holds(0, 1)", x.holds(0, 1), 1);
            Check.due("holds(0, last)", x.holds(0, last), 0);
            int[] bad = {MIN, -1, last + 1, MAX};
            for (int number : bad) {
                Check.due("holds(0, " + number + ")", x.holds(0, number), -2);
                Check.due("holds(1, " + number + ")", x.holds(1, number), -1);
            }
            Check.due("holds(-1, 0)", x.holds(-1, 0), -1);
            Check.due("holds(MIN, 0)", x.holds(MIN, 0), -1);
            Check.due("holds(MAX, 0)", x.holds(MAX, 0), -1);
            x.require(0, 0);
            Check.due("holds where it is no solution", x.holds(0, 1), 1);
        }
        BitBlaster full = withFullTests(4);
        Check.due("holds(15, 4095)", full.holds(15, 4095), 1);
        Check.due("holds(16, 0)", full.holds(16, 0), -1);
    }

    private static void solvable() {
        for (int w = 1; w <= 4; w++) {
            BitBlaster x = withVariables(w);
            Check.due("solvable() without a constraint", x.solvable(), 1);
            x.compare(BitBlaster.EQUAL, 0, 1);
            x.require(0, 1);
            Check.due("solvable() with a constraint", x.solvable(), 1);
            x.require(0, 0);
            Check.due("solvable() with both signs", x.solvable(), 0);
            x.release();
            Check.due("solvable() after release", x.solvable(), 1);
        }
    }

    /** The one solution is the first assignment of all, or the last: no question may miss it. */
    private static void questionsOfOneSolution() {
        for (int w = 1; w <= 4; w++) {
            int greatestWord = sizeOf(w) - 1;
            questionsOfOneSolution(w, 0, 0);
            questionsOfOneSolution(w, greatestWord, numberOf(w, greatestWord, greatestWord, greatestWord));
        }
    }

    private static void questionsOfOneSolution(int w, int word, int number) {
        BitBlaster x = withVariables(w);
        x.constant(word);
        x.invert(3);
        for (int v = 0; v < 3; v++) {
            x.compare(BitBlaster.EQUAL, v, 3);
            x.require(v, 1);
        }
        x.compare(BitBlaster.EQUAL, 0, 4);
        String where = " where only " + number + " is a solution, width " + w;
        Check.due("solvable()" + where, x.solvable(), 1);
        Check.due("count()" + where, x.count(), 1);
        Check.due("next(-1)" + where, x.next(-1), number);
        Check.due("next after it" + where, x.next(number), -1);
        for (int v = 0; v < 3; v++) {
            Check.due("least(" + v + ")" + where, x.least(v), word);
            Check.due("greatest(" + v + ")" + where, x.greatest(v), word);
            Check.due("follows(" + v + ")" + where, x.follows(v), 1);
        }
        Check.due("follows(3)" + where, x.follows(3), 0);
    }

    private static void next() {
        int[] lasts = {7, 63, 511, 4095};
        for (int w = 1; w <= 4; w++) {
            BitBlaster x = withVariables(w);
            int last = lasts[w - 1];
            int[] after = {MIN, -2, -1, 0, last - 1, last, last + 1, MAX - 1, MAX};
            int[] want = {0, 0, 0, 1, last, -1, -1, -1, -1};
            for (int i = 0; i < after.length; i++) {
                Check.due("next(" + after[i] + "), width " + w, x.next(after[i]), want[i]);
            }
        }
        BitBlaster x = withVariables(2);
        x.compare(BitBlaster.LESS, 0, 1);
        x.compare(BitBlaster.LESS, 1, 2);
        x.require(0, 1);
        x.require(1, 1);
        // The words of these are 0 1 2, 0 1 3, 0 2 3 and 1 2 3.
        int[] solutions = {6, 7, 11, 27};
        int after = MIN;
        for (int solution : solutions) {
            Check.due("next(" + after + ")", x.next(after), solution);
            Check.due("next(one before " + solution + ")", x.next(solution - 1), solution);
            after = solution;
        }
        Check.due("next after the last solution", x.next(after), -1);
        Check.due("next(63)", x.next(63), -1);
        x.require(1, 0);
        Check.due("next(-1) without a solution", x.next(-1), -1);
        Check.due("next(MIN) without a solution", x.next(MIN), -1);
    }

    private static void count() {
        int[] all = {8, 64, 512, 4096};
        for (int w = 1; w <= 4; w++) {
            BitBlaster x = withVariables(w);
            Check.due("count() of all", x.count(), all[w - 1]);
            x.compare(BitBlaster.EQUAL, 0, 2);
            x.require(0, 1);
            Check.due("count() where two are equal", x.count(), all[w - 1] / sizeOf(w));
            x.release();
            x.require(0, 0);
            Check.due("count() where they differ", x.count(), all[w - 1] - all[w - 1] / sizeOf(w));
            x.require(0, 1);
            Check.due("count() of none", x.count(), 0);
        }
    }

    /** The solutions are x0 < x1 < x2, at width 3. */
    private static BitBlaster rising() {
        BitBlaster x = withVariables(3);
        x.compare(BitBlaster.LESS, 0, 1);
        x.compare(BitBlaster.LESS, 1, 2);
        x.require(0, 1);
        x.require(1, 1);
        return x;
    }

    private static void least() {
        BitBlaster x = rising();
        Check.due("least(0)", x.least(0), 0);
        Check.due("least(1)", x.least(1), 1);
        Check.due("least(2)", x.least(2), 2);
        x.constant(7);
        Check.due("least of the greatest word", x.least(3), 7);
        int[] bad = {MIN, -1, 4, 28, MAX};
        for (int term : bad) {
            Check.due("least(" + term + ")", x.least(term), -1);
        }
        x.require(0, 0);
        Check.due("least(0) without a solution", x.least(0), -2);
        Check.due("least(4) without a solution", x.least(4), -1);
        Check.due("least of a variable, no constraint", withVariables(4).least(2), 0);
    }

    private static void greatest() {
        BitBlaster x = rising();
        Check.due("greatest(0)", x.greatest(0), 5);
        Check.due("greatest(1)", x.greatest(1), 6);
        Check.due("greatest(2)", x.greatest(2), 7);
        x.constant(0);
        Check.due("greatest of the least word", x.greatest(3), 0);
        int[] bad = {MIN, -1, 4, 28, MAX};
        for (int term : bad) {
            Check.due("greatest(" + term + ")", x.greatest(term), -1);
        }
        x.require(0, 0);
        Check.due("greatest(0) without a solution", x.greatest(0), -2);
        Check.due("greatest(4) without a solution", x.greatest(4), -1);
        Check.due("greatest of a variable, no constraint", withVariables(4).greatest(2), 15);
    }

    private static void follows() {
        BitBlaster x = rising();
        x.compare(BitBlaster.LESS, 0, 2);
        x.compare(BitBlaster.LESS, 2, 0);
        x.compare(BitBlaster.SIGNED_LESS, 0, 2);
        Check.due("follows(2), always", x.follows(2), 1);
        Check.due("follows(3), never", x.follows(3), 0);
        Check.due("follows(4), now and then", x.follows(4), 2);
        int[] bad = {MIN, -1, 5, 16, MAX};
        for (int test : bad) {
            Check.due("follows(" + test + ")", x.follows(test), -1);
        }
        x.require(4, 0);
        Check.due("follows(4), required not to hold", x.follows(4), 0);
        x.require(4, 1);
        for (int test = 0; test < 5; test++) {
            Check.due("follows(" + test + ") without a solution", x.follows(test), 1);
        }
        Check.due("follows(5) without a solution", x.follows(5), -1);
        BitBlaster free = withVariables(4);
        free.compare(BitBlaster.EQUAL, 0, 0);
        free.compare(BitBlaster.LESS, 0, 0);
        free.compare(BitBlaster.LESS, 0, 1);
        Check.due("follows(0), no constraint", free.follows(0), 1);
        Check.due("follows(1), no constraint", free.follows(1), 0);
        Check.due("follows(2), no constraint", free.follows(2), 2);
    }

    private static void same() {
        BitBlaster x = withVariables(4);
        x.combine(BitBlaster.ADD, 0, 1);
        x.combine(BitBlaster.ADD, 1, 0);
        x.combine(BitBlaster.SUB, 0, 1);
        x.combine(BitBlaster.SUB, 1, 0);
        Check.due("same(3, 4)", x.same(3, 4), 1);
        Check.due("same(5, 6)", x.same(5, 6), 0);
        Check.due("same(5, 5)", x.same(5, 5), 1);
        x.compare(BitBlaster.EQUAL, 0, 1);
        x.require(0, 1);
        Check.due("same only in the solutions", x.same(0, 1), 0);
        x.require(0, 0);
        Check.due("different, without a solution", x.same(0, 1), 0);
        Check.due("same, without a solution", x.same(3, 4), 1);
        int[] bad = {MIN, -1, 7, MAX};
        for (int term : bad) {
            Check.due("same(" + term + ", 0)", x.same(term, 0), -1);
            Check.due("same(0, " + term + ")", x.same(0, term), -1);
            Check.due("same(" + term + ", itself)", x.same(term, term), -1);
        }
        sameButOnce();
    }

    /** Terms that differ under the first assignment alone, or under the last alone. */
    private static void sameButOnce() {
        for (int w = 1; w <= 4; w++) {
            BitBlaster x = withVariables(w);
            int or = x.combine(BitBlaster.OR, 0, 1);
            int anyBit = x.combine(BitBlaster.OR, or, 2);
            int and = x.combine(BitBlaster.AND, 0, 1);
            int everyBit = x.combine(BitBlaster.AND, and, 2);
            int zero = x.constant(0);
            int ones = x.constant(-1);
            int allZero = x.compare(BitBlaster.EQUAL, anyBit, zero);
            int allOnes = x.compare(BitBlaster.EQUAL, everyBit, ones);
            int first = x.choose(allZero, ones, 1);
            int last = x.choose(allOnes, zero, 1);
            Check.due("same but under the first", x.same(1, first), 0);
            Check.due("same but under the last", x.same(last, 1), 0);
        }
    }
}
