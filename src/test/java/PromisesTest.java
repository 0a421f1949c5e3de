/** Each promise with ordinary inputs; BoundariesTest and EveryMethodTest have the boundary cases. */
public final class PromisesTest {
    public static void main(String[] args) {
        newObject();
        width();
        variable();
        constant();
        combine();
        combineOfOneTermTwice();
        invert();
        shift();
        choose();
        compare();
        connect();
        require();
        release();
        terms();
        tests();
        valueOf();
        holds();
        solvable();
        next();
        count();
        least();
        greatest();
        follows();
        same();
        Check.end();
    }

    private static BitBlaster withVariables(int w) {
        return Fixture.withVariables(w);
    }

    private static int words(int w) {
        return Fixture.words(w);
    }

    private static int numberOf(int w, int x0, int x1, int x2) {
        return Fixture.numberOf(w, x0, x1, x2);
    }

    private static void newObject() {
        BitBlaster x = new BitBlaster(3);
        Check.due("terms of a new object", x.terms(), 0);
        Check.due("tests of a new object", x.tests(), 0);
        Check.due("constraints of a new object", x.release(), -1);
        Check.due("solutions of a new object", x.count(), 512);
        BitBlaster one = withVariables(2);
        BitBlaster other = withVariables(3);
        one.compare(BitBlaster.LESS, 0, 1);
        one.require(0, 1);
        Check.due("width of an object beside another", one.width(), 2);
        Check.due("tests of an object beside another", other.tests(), 0);
        Check.due("count of an object beside another", other.count(), 512);
    }

    private static void width() {
        for (int w = 1; w <= 4; w++) {
            Check.due("width() after " + w, new BitBlaster(w).width(), w);
        }
    }

    private static void variable() {
        for (int w = 1; w <= 4; w++) {
            for (int x0 = 0; x0 < words(w); x0++) {
                for (int x1 = 0; x1 < words(w); x1++) {
                    variableUnder(w, x0, x1);
                }
            }
        }
        BitBlaster x = new BitBlaster(2);
        Check.due("variable(2)", x.variable(2), 0);
        Check.due("variable(2) again", x.variable(2), 1);
        Check.due("variable(0)", x.variable(0), 2);
        Check.due("same(0, 1)", x.same(0, 1), 1);
        Check.due("same(1, 2)", x.same(1, 2), 0);
    }

    private static void variableUnder(int w, int x0, int x1) {
        BitBlaster x = withVariables(w);
        for (int x2 = 0; x2 < words(w); x2++) {
            int number = numberOf(w, x0, x1, x2);
            Check.due("variable 0 under " + number, x.valueOf(0, number), x0);
            Check.due("variable 1 under " + number, x.valueOf(1, number), x1);
            Check.due("variable 2 under " + number, x.valueOf(2, number), x2);
        }
    }

    private static void constant() {
        for (int w = 1; w <= 4; w++) {
            BitBlaster x = new BitBlaster(w);
            for (int value = 0; value < words(w); value++) {
                Check.due("constant(" + value + ")", x.constant(value), value);
                for (int number = 0; number < 8; number++) {
                    Check.due("constant " + value, x.valueOf(value, number), value);
                }
            }
        }
    }

    private static int combined(int w, int kind, int a, int b) {
        int[] results = {a + b, a - b, a * b, a & b, a | b, a ^ b};
        return Math.floorMod(results[kind], words(w));
    }

    private static void combine() {
        for (int w = 1; w <= 4; w++) {
            for (int kind = 0; kind <= 5; kind++) {
                BitBlaster x = withVariables(w);
                Check.due("combine", x.combine(kind, 2, 0), 3);
                for (int a = 0; a < words(w); a++) {
                    for (int b = 0; b < words(w); b++) {
                        int number = numberOf(w, b, (a + b) % 2, a);
                        Check.due("kind " + kind + " of " + a + " and " + b + ", width " + w,
                            x.valueOf(3, number), combined(w, kind, a, b));
                    }
                }
            }
        }
    }

    private static void combineOfOneTermTwice() {
        BitBlaster x = withVariables(4);
        for (int kind = 0; kind <= 5; kind++) {
            int term = x.combine(kind, 1, 1);
            for (int a = 0; a < 16; a++) {
                Check.due("kind " + kind + " of " + a + " twice",
                    x.valueOf(term, numberOf(4, 3, a, 9)), combined(4, kind, a, a));
            }
        }
    }

    private static void invert() {
        for (int w = 1; w <= 4; w++) {
            BitBlaster x = withVariables(w);
            Check.due("invert(1)", x.invert(1), 3);
            Check.due("invert(3)", x.invert(3), 4);
            for (int a = 0; a < words(w); a++) {
                int number = numberOf(w, 0, a, 1);
                Check.due("invert of " + a, x.valueOf(3, number), words(w) - 1 - a);
                Check.due("invert twice of " + a, x.valueOf(4, number), a);
            }
        }
    }

    private static int shifted(int w, int a, int by) {
        int value = a;
        for (int i = 0; i < by; i++) {
            value = value * 2 % words(w);
        }
        for (int i = 0; i > by; i--) {
            value = value / 2;
        }
        return value;
    }

    private static void shift() {
        for (int w = 1; w <= 4; w++) {
            BitBlaster x = withVariables(w);
            for (int by = -4; by <= 4; by++) {
                int term = x.shift(0, by);
                Check.due("shift(0, " + by + ")", term, 7 + by);
                for (int a = 0; a < words(w); a++) {
                    Check.due("shift of " + a + " by " + by + ", width " + w,
                        x.valueOf(term, numberOf(w, a, 1, 0)), shifted(w, a, by));
                }
            }
        }
    }

    private static void choose() {
        for (int w = 1; w <= 4; w++) {
            BitBlaster x = withVariables(w);
            x.compare(BitBlaster.EQUAL, 0, 1);
            x.compare(BitBlaster.LESS, 0, 1);
            Check.due("choose(1, 2, 0)", x.choose(1, 2, 0), 3);
            for (int x0 = 0; x0 < words(w); x0++) {
                for (int x1 = 0; x1 < words(w); x1++) {
                    int x2 = (x0 + 1) % words(w);
                    Check.due("choice under " + x0 + ", " + x1 + ", " + x2,
                        x.valueOf(3, numberOf(w, x0, x1, x2)), x0 < x1 ? x2 : x0);
                }
            }
        }
    }

    private static int signed(int w, int word) {
        return word * 2 >= words(w) ? word - words(w) : word;
    }

    private static boolean compared(int w, int kind, int a, int b) {
        boolean[] results = {a == b, a < b, signed(w, a) < signed(w, b)};
        return results[kind];
    }

    private static void compare() {
        for (int w = 1; w <= 4; w++) {
            for (int kind = 0; kind <= 2; kind++) {
                BitBlaster x = withVariables(w);
                Check.due("compare", x.compare(kind, 2, 0), 0);
                Check.due("compare again", x.compare(kind, 0, 0), 1);
                for (int a = 0; a < words(w); a++) {
                    for (int b = 0; b < words(w); b++) {
                        Check.due("kind " + kind + " of " + a + " and " + b + ", width " + w,
                            x.holds(0, numberOf(w, b, b / 2, a)), compared(w, kind, a, b) ? 1 : 0);
                    }
                    Check.due("kind " + kind + " of a term with itself",
                        x.holds(1, numberOf(w, a, 0, 0)), kind == 0 ? 1 : 0);
                }
            }
        }
    }

    private static void connect() {
        BitBlaster x = withVariables(1);
        x.constant(1);
        x.compare(BitBlaster.EQUAL, 0, 3);
        x.compare(BitBlaster.EQUAL, 1, 3);
        for (int kind = 0; kind <= 2; kind++) {
            Check.due("connect", x.connect(kind, 0, 1), 2 + kind);
            Check.due("kind " + kind + ", neither", x.holds(2 + kind, 0), 0);
            Check.due("kind " + kind + ", second", x.holds(2 + kind, 2), kind == 0 ? 0 : 1);
            Check.due("kind " + kind + ", first", x.holds(2 + kind, 4), kind == 0 ? 0 : 1);
            Check.due("kind " + kind + ", both", x.holds(2 + kind, 6), kind == 2 ? 0 : 1);
        }
    }

    private static void require() {
        BitBlaster x = withVariables(4);
        x.compare(BitBlaster.LESS, 0, 1);
        x.compare(BitBlaster.LESS, 1, 2);
        Check.due("require(0, 1)", x.require(0, 1), 1);
        Check.due("count() with sign 1", x.count(), 1920);
        Check.due("require(1, 1)", x.require(1, 1), 2);
        Check.due("count() with both", x.count(), 560);
        x.release();
        x.release();
        Check.due("require(0, 0)", x.require(0, 0), 1);
        Check.due("count() with sign 0", x.count(), 2176);
    }

    private static void release() {
        BitBlaster x = withVariables(2);
        x.compare(BitBlaster.LESS, 0, 1);
        x.compare(BitBlaster.LESS, 1, 2);
        x.require(0, 1);
        x.require(1, 1);
        Check.due("count() with both", x.count(), 4);
        Check.due("release() of the last", x.release(), 1);
        Check.due("count() with the first", x.count(), 24);
        Check.due("follows(0)", x.follows(0), 1);
        Check.due("follows(1)", x.follows(1), 2);
        Check.due("release() of the first", x.release(), 0);
        Check.due("count() with none", x.count(), 64);
        Check.due("require after all that", x.require(1, 0), 1);
        Check.due("count() with the second turned", x.count(), 40);
        Check.due("tests() are kept", x.tests(), 2);
    }

    private static void terms() {
        BitBlaster x = new BitBlaster(3);
        Check.due("terms() at first", x.terms(), 0);
        x.variable(1);
        Check.due("terms() after variable", x.terms(), 1);
        x.constant(5);
        Check.due("terms() after constant", x.terms(), 2);
        x.combine(0, 0, 1);
        Check.due("terms() after combine", x.terms(), 3);
        x.invert(0);
        Check.due("terms() after invert", x.terms(), 4);
        x.shift(0, 1);
        Check.due("terms() after shift", x.terms(), 5);
        x.compare(0, 0, 1);
        Check.due("terms() after compare", x.terms(), 5);
        x.choose(0, 0, 1);
        Check.due("terms() after choose", x.terms(), 6);
    }

    private static void tests() {
        BitBlaster x = withVariables(3);
        Check.due("tests() at first", x.tests(), 0);
        x.compare(1, 0, 1);
        Check.due("tests() after compare", x.tests(), 1);
        x.connect(1, 0, 0);
        Check.due("tests() after connect", x.tests(), 2);
        x.require(0, 1);
        Check.due("tests() after require", x.tests(), 2);
        x.release();
        Check.due("tests() after release", x.tests(), 2);
    }

    private static void valueOf() {
        BitBlaster x = withVariables(3);
        int sum = x.combine(BitBlaster.ADD, 0, 1);
        int product = x.combine(BitBlaster.MUL, sum, 2);
        Check.due("the sum of 2 and 3", x.valueOf(sum, numberOf(3, 2, 3, 6)), 5);
        Check.due("that times 6", x.valueOf(product, numberOf(3, 2, 3, 6)), 6);
        x.compare(BitBlaster.EQUAL, 0, 1);
        x.require(0, 1);
        Check.due("the sum where it is no solution", x.valueOf(sum, numberOf(3, 2, 3, 6)), 5);
    }

    private static void holds() {
        BitBlaster x = withVariables(3);
        x.compare(BitBlaster.LESS, 0, 2);
        Check.due("2 < 6", x.holds(0, numberOf(3, 2, 3, 6)), 1);
        Check.due("6 < 2", x.holds(0, numberOf(3, 6, 3, 2)), 0);
        x.require(0, 0);
        Check.due("2 < 6 where it is no solution", x.holds(0, numberOf(3, 2, 3, 6)), 1);
    }

    private static void solvable() {
        for (int w = 1; w <= 4; w++) {
            BitBlaster x = withVariables(w);
            x.compare(BitBlaster.EQUAL, 0, 1);
            x.require(0, 1);
            Check.due("solvable() with a constraint", x.solvable(), 1);
            x.require(0, 0);
            Check.due("solvable() with both signs", x.solvable(), 0);
        }
    }

    private static void next() {
        BitBlaster x = withVariables(2);
        x.compare(BitBlaster.LESS, 0, 1);
        x.compare(BitBlaster.LESS, 1, 2);
        x.require(0, 1);
        x.require(1, 1);
        // The words of these are 0 1 2, 0 1 3, 0 2 3 and 1 2 3.
        int[] solutions = {6, 7, 11, 27};
        int after = -1;
        for (int solution : solutions) {
            Check.due("next(" + after + ")", x.next(after), solution);
            Check.due("next(one before " + solution + ")", x.next(solution - 1), solution);
            after = solution;
        }
        Check.due("next after the last solution", x.next(after), -1);
    }

    private static void count() {
        int[] all = {8, 64, 512, 4096};
        for (int w = 1; w <= 4; w++) {
            BitBlaster x = withVariables(w);
            x.compare(BitBlaster.EQUAL, 0, 2);
            x.require(0, 1);
            Check.due("count() where two are equal", x.count(), all[w - 1] / words(w));
            x.release();
            x.require(0, 0);
            Check.due("count() where they differ", x.count(), all[w - 1] - all[w - 1] / words(w));
        }
    }

    /** The solutions are x0 < x1 < x2, at width 3. */
    private static BitBlaster rising() {
        BitBlaster x = withVariables(3);
        x.compare(BitBlaster.LESS, 0, 1);
        x.compare(BitBlaster.LESS, 1, 2);
        x.require(0, 1);
        x.require(1, 1);
        return x;
    }

    private static void least() {
        BitBlaster x = rising();
        Check.due("least(0)", x.least(0), 0);
        Check.due("least(1)", x.least(1), 1);
        Check.due("least(2)", x.least(2), 2);
    }

    private static void greatest() {
        BitBlaster x = rising();
        Check.due("greatest(0)", x.greatest(0), 5);
        Check.due("greatest(1)", x.greatest(1), 6);
        Check.due("greatest(2)", x.greatest(2), 7);
    }

    private static void follows() {
        BitBlaster x = rising();
        x.compare(BitBlaster.LESS, 0, 2);
        x.compare(BitBlaster.LESS, 2, 0);
        x.compare(BitBlaster.SIGNED_LESS, 0, 2);
        Check.due("follows(2), always", x.follows(2), 1);
        Check.due("follows(3), never", x.follows(3), 0);
        Check.due("follows(4), now and then", x.follows(4), 2);
        x.require(4, 0);
        Check.due("follows(4), required not to hold", x.follows(4), 0);
    }

    private static void same() {
        BitBlaster x = withVariables(4);
        x.combine(BitBlaster.ADD, 0, 1);
        x.combine(BitBlaster.ADD, 1, 0);
        x.combine(BitBlaster.SUB, 0, 1);
        x.combine(BitBlaster.SUB, 1, 0);
        Check.due("same(3, 4)", x.same(3, 4), 1);
        Check.due("same(5, 6)", x.same(5, 6), 0);
        Check.due("same(5, 5)", x.same(5, 5), 1);
    }
}
