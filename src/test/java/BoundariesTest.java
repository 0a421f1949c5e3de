import java.util.function.IntFunction;

/**
 * Each sentence of promises 1 to 23 that names a boundary case, with a test of its own. What holds
 * in every method alike is tested in EveryMethodTest.
 */
public final class BoundariesTest {
    private static final int MIN = Fixture.MIN;
    private static final int MAX = Fixture.MAX;

    private interface Call {
        int on(BitBlaster x);
    }

    private interface CallWith {
        int on(BitBlaster x, int argument);
    }

    private interface OfWidth {
        void test(int w);
    }

    public static void main(String[] args) {
        newObjectAndWidth();
        variableAndConstant();
        combine();
        invertAndShift();
        choose();
        compare();
        connect();
        requireAndRelease();
        termsAndTests();
        valueOfAndHolds();
        solvableAndCount();
        next();
        leastAndGreatest();
        follows();
        same();
        Check.end();
    }

    private static void forEachWidth(OfWidth test) {
        for (int w = 1; w <= 4; w++) {
            test.test(w);
        }
    }

    /** The sentence "refusal if the argument is not in low .. high", with both ends still taken. */
    private static void onlyInside(String what, IntFunction<BitBlaster> state, int low, int high,
            int refusal, CallWith call) {
        forEachWidth(w -> {
            for (int argument : Fixture.outside(low, high)) {
                Check.due(what + " with " + argument + ", width " + w,
                    call.on(state.apply(w), argument), refusal);
            }
            if (low <= high) {
                Check.isTrue(what + " with " + low + ", width " + w + ", is taken",
                    call.on(state.apply(w), low) >= 0);
                Check.isTrue(what + " with " + high + ", width " + w + ", is taken",
                    call.on(state.apply(w), high) >= 0);
            }
        });
    }

    /** Good terms are 0 .. 0, 0 .. 4 and 0 .. 26; the tests are of another number each time. */
    private static void onlyGoodTerms(String what, int refusal, CallWith call) {
        onlyInside(what + " of 1 term", w -> Fixture.with(w, 1, 5, 0), 0, 0, refusal, call);
        onlyInside(what + " of 5 terms", w -> Fixture.with(w, 5, 2, 0), 0, 4, refusal, call);
        onlyInside(what + " of 27 terms", w -> Fixture.with(w, 27, 15, 0), 0, 26, refusal, call);
    }

    /** Good tests are 0 .. 0, 0 .. 6 and 0 .. 14; the terms are of another number each time. */
    private static void onlyGoodTests(String what, int refusal, CallWith call) {
        onlyInside(what + " of 1 test", w -> Fixture.with(w, 3, 1, 0), 0, 0, refusal, call);
        onlyInside(what + " of 7 tests", w -> Fixture.with(w, 2, 7, 0), 0, 6, refusal, call);
        onlyInside(what + " of 15 tests", w -> Fixture.with(w, 27, 15, 0), 0, 14, refusal, call);
    }

    private static void noneGood(String what, IntFunction<BitBlaster> state, int refusal, CallWith call) {
        onlyInside(what + " where there is none", state, 0, -1, refusal, call);
    }

    /** The sentence "-2 if there are 28 terms": the 28th is made, and no other after it. */
    private static void atMost28Terms(String what, Call call) {
        forEachWidth(w -> {
            BitBlaster x = Fixture.with(w, 27, 1, 0);
            Check.due(what + " with 27 terms", call.on(x), 27);
            Check.due("terms() then", x.terms(), 28);
            Check.due(what + " with 28 terms", call.on(x), -2);
            Check.due(what + " with 28 terms again", call.on(x), -2);
            Check.due("terms() after the refusals", x.terms(), 28);
            Check.due(what + " with 28 terms, 16 tests and 10 constraints",
                call.on(Fixture.with(w, 28, 16, 10)), -2);
            Check.due(what + " with 16 tests and 10 constraints, but 3 terms",
                call.on(Fixture.with(w, 3, 16, 10)), 3);
        });
    }

    /** The sentence "-2 if there are 16 tests": the 16th is made, and no other after it. */
    private static void atMost16Tests(String what, Call call) {
        forEachWidth(w -> {
            BitBlaster x = Fixture.with(w, 3, 15, 0);
            Check.due(what + " with 15 tests", call.on(x), 15);
            Check.due("tests() then", x.tests(), 16);
            Check.due(what + " with 16 tests", call.on(x), -2);
            Check.due(what + " with 16 tests again", call.on(x), -2);
            Check.due("tests() after the refusals", x.tests(), 16);
            Check.due(what + " with 28 terms, 16 tests and 10 constraints",
                call.on(Fixture.with(w, 28, 16, 10)), -2);
            Check.due(what + " with 28 terms and 10 constraints, but 2 tests",
                call.on(Fixture.with(w, 28, 2, 10)), 2);
        });
    }

    private static void newObjectAndWidth() {
        Check.sentence("1. below 1 becomes 1", () -> {
            int[] below = {0, -1, -2, -3, -4, -28, -31, -32, -256, MIN + 1, MIN};
            for (int given : below) {
                actsAsWidth(given, 1);
            }
        });
        Check.sentence("1. above 4 becomes 4", () -> {
            int[] above = {5, 6, 7, 8, 31, 32, 33, 257, 65537, MAX - 1, MAX};
            for (int given : above) {
                actsAsWidth(given, 4);
            }
        });
        Check.sentence("1. width is w, from 1 to 4", () -> forEachWidth(w -> actsAsWidth(w, w)));
        Check.sentence("2. w, whatever has been called", () -> forEachWidth(w -> {
            Check.due("width() of a new object", new BitBlaster(w).width(), w);
            BitBlaster full = Fixture.with(w, 28, 16, 10);
            Check.due("width() of a full object", full.width(), w);
            full.constant(3);
            Check.due("width() after a refusal", full.width(), w);
        }));
    }

    private static void actsAsWidth(int given, int w) {
        BitBlaster x = new BitBlaster(given);
        String of = " of BitBlaster(" + given + ")";
        Check.due("width()" + of, x.width(), w);
        Check.due("count()" + of, x.count(), Fixture.lastNumber(w) + 1);
        x.constant(-1);
        x.constant(Fixture.words(w));
        Check.due("the greatest word" + of, x.valueOf(0, 0), Fixture.lastWord(w));
        Check.due("the word after it" + of, x.valueOf(1, 0), 0);
        Check.due("the last number" + of, x.valueOf(0, Fixture.lastNumber(w)), Fixture.lastWord(w));
        Check.due("the number after it" + of, x.valueOf(0, Fixture.lastNumber(w) + 1), -2);
        Check.due("next(the last number)" + of, x.next(Fixture.lastNumber(w)), -1);
    }

    private static void variableAndConstant() {
        Check.sentence("3. -1 if v is not in 0 .. 2", () -> {
            onlyInside("variable, first", w -> new BitBlaster(w), 0, 2, -1, (x, v) -> x.variable(v));
            onlyInside("variable", w -> Fixture.with(w, 27, 16, 10), 0, 2, -1, (x, v) -> x.variable(v));
        });
        Check.sentence("3. -2 if there are 28 terms", () -> {
            atMost28Terms("variable(0)", x -> x.variable(0));
            atMost28Terms("variable(2)", x -> x.variable(2));
        });
        Check.sentence("3. otherwise answers its number", () -> numbersFrom0("variable",
            (x, i) -> x.variable(i % 3), (x, i) -> i % 3 == 0 ? 0 : Fixture.lastWord(x.width())));
        Check.sentence("4. always value modulo 2^w", () -> forEachWidth(w -> {
            int words = Fixture.words(w);
            isAlways(w, words - 1, words - 1);
            isAlways(w, words, 0);
            isAlways(w, words + 1, 1);
            isAlways(w, 2 * words - 1, words - 1);
            isAlways(w, 128, 0);
            isAlways(w, 256, 0);
            isAlways(w, MAX, words - 1);
            isAlways(w, 0, 0);
        }));
        Check.sentence("4. (never negative)", () -> forEachWidth(w -> {
            int words = Fixture.words(w);
            isAlways(w, -1, words - 1);
            isAlways(w, -words + 1, 1);
            isAlways(w, -words, 0);
            isAlways(w, -words - 1, words - 1);
            isAlways(w, -128, 0);
            isAlways(w, MIN, 0);
            isAlways(w, MIN + 1, 1);
        }));
        Check.sentence("4. -2 if there are 28 terms", () -> {
            atMost28Terms("constant(0)", x -> x.constant(0));
            atMost28Terms("constant(MIN)", x -> x.constant(MIN));
        });
        Check.sentence("4. otherwise answers its number", () -> numbersFrom0("constant",
            (x, i) -> x.constant(-i), (x, i) -> Math.floorMod(-i, Fixture.words(x.width()))));
    }

    /** Terms made one after the other are 0 .. 27, and each keeps its own value. */
    private static void numbersFrom0(String what, CallWith call, CallWith want) {
        forEachWidth(w -> {
            BitBlaster x = new BitBlaster(w);
            for (int i = 0; i < 28; i++) {
                Check.due(what + " number " + i, call.on(x, i), i);
            }
            // Variable 0 is 0 there and the others are the greatest word.
            int number = Fixture.numberOf(w, 0, Fixture.lastWord(w), Fixture.lastWord(w));
            for (int i = 0; i < 28; i++) {
                Check.due("value of " + what + " number " + i, x.valueOf(i, number), want.on(x, i));
            }
        });
    }

    /** Terms made after term 0 are 1 .. 27, and none changes the value of one before it. */
    private static void numbersFrom1(String what, CallWith call) {
        forEachWidth(w -> {
            BitBlaster x = Fixture.with(w, 1, 1, 0);
            int last = Fixture.lastNumber(w);
            int[] values = new int[28];
            values[0] = Fixture.lastWord(w);
            for (int i = 1; i < 28; i++) {
                Check.due(what + " number " + i, call.on(x, i), i);
                values[i] = x.valueOf(i, last);
            }
            for (int i = 0; i < 28; i++) {
                Check.due("value of " + what + " number " + i, x.valueOf(i, last), values[i]);
            }
        });
    }

    private static void isAlways(int w, int value, int want) {
        BitBlaster x = Fixture.withVariables(w);
        Check.due("constant(" + value + ")", x.constant(value), 3);
        String of = " of constant(" + value + "), width " + w;
        Check.due("value under the first" + of, x.valueOf(3, 0), want);
        Check.due("value under the last" + of, x.valueOf(3, Fixture.lastNumber(w)), want);
        Check.due("least" + of, x.least(3), want);
        Check.due("greatest" + of, x.greatest(3), want);
    }

    private static void combine() {
        Check.sentence("5. -1 if kind is not in 0 .. 5", () ->
            onlyInside("combine, kind", w -> Fixture.with(w, 2, 3, 0), 0, 5, -1,
                (x, kind) -> x.combine(kind, 0, 1)));
        Check.sentence("5. -2 if there are 28 terms", () -> {
            for (int i = 0; i <= 5; i++) {
                int kind = i;
                atMost28Terms("combine, kind " + kind, x -> x.combine(kind, 0, 1));
            }
            atMost28Terms("combine with the last", x -> x.combine(0, x.terms() - 1, 0));
        });
        Check.sentence("5. -3 if a or b is not good", () -> {
            for (int i = 0; i <= 5; i++) {
                int kind = i;
                noneGood("combine, kind " + kind, w -> new BitBlaster(w), -3,
                    (x, term) -> x.combine(kind, term, term));
                onlyGoodTerms("combine, kind " + kind + ", a", -3, (x, a) -> x.combine(kind, a, 0));
                onlyGoodTerms("combine, kind " + kind + ", b", -3, (x, b) -> x.combine(kind, 0, b));
                onlyGoodTerms("combine, kind " + kind + ", both", -3,
                    (x, term) -> x.combine(kind, term, term));
            }
        });
        Check.sentence("5. otherwise answers its number", () ->
            numbersFrom1("combine", (x, i) -> x.combine(i % 6, i - 1, 0)));
    }

    private static void invertAndShift() {
        Check.sentence("6. whose bits are those of a turned over, and no bit above them", () ->
            forEachWidth(w -> {
                BitBlaster x = Fixture.withVariables(w);
                int inverted = x.invert(0);
                int twice = x.invert(inverted);
                int last = Fixture.lastNumber(w);
                Check.due("invert of 0", x.valueOf(inverted, 0), Fixture.lastWord(w));
                Check.due("invert of the greatest word", x.valueOf(inverted, last), 0);
                Check.due("invert twice of 0", x.valueOf(twice, 0), 0);
                Check.due("invert twice of the greatest word", x.valueOf(twice, last),
                    Fixture.lastWord(w));
                Check.due("invert twice is the same", x.same(twice, 0), 1);
            }));
        Check.sentence("6. -2 if there are 28 terms", () -> atMost28Terms("invert", x -> x.invert(0)));
        Check.sentence("6. -3 if a is not good", () -> {
            noneGood("invert", w -> new BitBlaster(w), -3, (x, a) -> x.invert(a));
            onlyGoodTerms("invert", -3, (x, a) -> x.invert(a));
        });
        Check.sentence("6. otherwise answers its number", () ->
            numbersFrom1("invert", (x, i) -> x.invert(i - 1)));
        Check.sentence("7. a * 2^by modulo 2^w (by >= 0), up to all bits out", () -> forEachWidth(w -> {
            for (int by = 0; by <= 4; by++) {
                int factor = new int[] {1, 2, 4, 8, 16}[by];
                for (int a = 0; a < Fixture.words(w); a++) {
                    shiftIs(w, a, by, a * factor % Fixture.words(w));
                }
            }
        }));
        Check.sentence("7. the whole part of a / 2^(-by) (by < 0), down to 0", () -> forEachWidth(w -> {
            for (int by = -4; by < 0; by++) {
                int divisor = new int[] {1, 2, 4, 8, 16}[-by];
                for (int a = 0; a < Fixture.words(w); a++) {
                    shiftIs(w, a, by, a / divisor);
                }
            }
        }));
        Check.sentence("7. -1 if by is not in -4 .. 4", () -> {
            onlyInside("shift, by", w -> Fixture.with(w, 2, 3, 0), -4, 4, -1, (x, by) -> x.shift(1, by));
            for (int w = 1; w <= 4; w++) {
                // What a shift of Java takes for 0 .. 4.
                Check.due("shift by 32", Fixture.with(w, 2, 3, 0).shift(1, 32), -1);
                Check.due("shift by -32", Fixture.with(w, 2, 3, 0).shift(1, -32), -1);
            }
        });
        Check.sentence("7. -2 if there are 28 terms", () -> {
            atMost28Terms("shift by 4", x -> x.shift(0, 4));
            atMost28Terms("shift by 0", x -> x.shift(0, 0));
            atMost28Terms("shift by -4", x -> x.shift(0, -4));
        });
        Check.sentence("7. -3 if a is not good", () -> {
            noneGood("shift", w -> new BitBlaster(w), -3, (x, a) -> x.shift(a, 0));
            onlyGoodTerms("shift by -4", -3, (x, a) -> x.shift(a, -4));
            onlyGoodTerms("shift by 0", -3, (x, a) -> x.shift(a, 0));
            onlyGoodTerms("shift by 4", -3, (x, a) -> x.shift(a, 4));
        });
        Check.sentence("7. otherwise answers its number", () ->
            numbersFrom1("shift", (x, i) -> x.shift(0, i % 9 - 4)));
    }

    private static void shiftIs(int w, int a, int by, int want) {
        BitBlaster x = Fixture.withVariables(w);
        int shifted = x.shift(2, by);
        int ofConstant = x.shift(x.constant(a), by);
        String what = "shift of " + a + " by " + by + ", width " + w;
        Check.due(what, x.valueOf(shifted, a), want);
        Check.due(what + ", constant, under 0", x.valueOf(ofConstant, 0), want);
        Check.due(what + ", constant, under the last", x.valueOf(ofConstant, Fixture.lastNumber(w)), want);
    }

    private static void choose() {
        Check.sentence("8. -1 if test is not good", () -> {
            noneGood("choose", w -> Fixture.withVariables(w), -1, (x, test) -> x.choose(test, 0, 1));
            onlyGoodTests("choose", -1, (x, test) -> x.choose(test, 0, 1));
        });
        Check.sentence("8. -2 if there are 28 terms", () ->
            atMost28Terms("choose", x -> x.choose(0, 0, 1)));
        Check.sentence("8. -3 if a or b is not good", () -> {
            onlyGoodTerms("choose, a", -3, (x, a) -> x.choose(0, a, 0));
            onlyGoodTerms("choose, b", -3, (x, b) -> x.choose(0, 0, b));
            onlyGoodTerms("choose, both", -3, (x, term) -> x.choose(0, term, term));
        });
        Check.sentence("8. otherwise answers its number", () ->
            numbersFrom1("choose", (x, i) -> x.choose(0, i - 1, 0)));
        Check.sentence("8. a where the test holds and b where it does not, always or never", () ->
            forEachWidth(w -> {
                BitBlaster x = Fixture.withVariables(w);
                x.compare(BitBlaster.EQUAL, 0, 0);
                x.compare(BitBlaster.LESS, 0, 0);
                Check.due("the choice by a test that always holds", x.same(x.choose(0, 1, 2), 1), 1);
                Check.due("the choice by a test that never holds", x.same(x.choose(1, 1, 2), 2), 1);
                Check.due("the choice of a term or itself", x.same(x.choose(1, 2, 2), 2), 1);
            }));
        Check.sentence("8. a under one assignment alone", () -> forEachWidth(w -> {
            int[] numbers = {0, Fixture.lastNumber(w)};
            for (int number : numbers) {
                BitBlaster x = Fixture.withVariables(w);
                int only = Fixture.onlyUnder(x, number);
                int inverted = x.invert(1);
                int chosen = x.choose(only, inverted, 1);
                for (int other : new int[] {0, 1, Fixture.lastNumber(w) - 1, Fixture.lastNumber(w)}) {
                    Check.due("the choice under " + other, x.valueOf(chosen, other),
                        x.valueOf(other == number ? inverted : 1, other));
                }
            }
        }));
    }

    private static void compare() {
        Check.sentence("9. a = b and a < b where a and b are equal", () -> forEachWidth(w -> {
            BitBlaster x = Fixture.withVariables(w);
            x.combine(BitBlaster.ADD, 0, 1);
            x.combine(BitBlaster.ADD, 1, 0);
            for (int kind = 0; kind <= 2; kind++) {
                int due = kind == 0 ? 1 : 0;
                Check.due("kind " + kind + " of a term and itself", x.follows(x.compare(kind, 2, 2)), due);
                Check.due("kind " + kind + " of the same terms", x.follows(x.compare(kind, 3, 4)), due);
            }
        }));
        Check.sentence("9. a < b as words, 0 being the least and 2^w - 1 the greatest", () ->
            forEachWidth(w -> {
                int last = Fixture.lastWord(w);
                compareIs(w, BitBlaster.LESS, 0, last, 1);
                compareIs(w, BitBlaster.LESS, last, 0, 0);
                compareIs(w, BitBlaster.LESS, last - 1, last, 1);
                compareIs(w, BitBlaster.LESS, last, last - 1, 0);
                compareIs(w, BitBlaster.LESS, last / 2, last / 2 + 1, 1);
                compareIs(w, BitBlaster.LESS, last / 2 + 1, last / 2, 0);
                compareIs(w, BitBlaster.LESS, last, last, 0);
                compareIs(w, BitBlaster.LESS, 0, 0, 0);
            }));
        Check.sentence("9. a < b as signed words, 2^(w-1) being the least and 2^(w-1) - 1 the greatest",
            () -> forEachWidth(w -> {
                int last = Fixture.lastWord(w);
                int least = Fixture.words(w) / 2;
                int greatest = least - 1;
                for (int a = 0; a <= last; a++) {
                    compareIs(w, BitBlaster.SIGNED_LESS, least, a, a == least ? 0 : 1);
                    compareIs(w, BitBlaster.SIGNED_LESS, a, least, 0);
                    compareIs(w, BitBlaster.SIGNED_LESS, a, greatest, a == greatest ? 0 : 1);
                    compareIs(w, BitBlaster.SIGNED_LESS, greatest, a, 0);
                }
                compareIs(w, BitBlaster.SIGNED_LESS, last, 0, 1);
                compareIs(w, BitBlaster.SIGNED_LESS, 0, last, 0);
            }));
        Check.sentence("9. -1 if kind is not in 0 .. 2", () ->
            onlyInside("compare, kind", w -> Fixture.with(w, 7, 5, 0), 0, 2, -1,
                (x, kind) -> x.compare(kind, 0, 1)));
        Check.sentence("9. -2 if there are 16 tests", () -> {
            for (int i = 0; i <= 2; i++) {
                int kind = i;
                atMost16Tests("compare, kind " + kind, x -> x.compare(kind, 0, 1));
            }
        });
        Check.sentence("9. -3 if a or b is not good", () -> {
            for (int i = 0; i <= 2; i++) {
                int kind = i;
                noneGood("compare, kind " + kind, w -> new BitBlaster(w), -3,
                    (x, term) -> x.compare(kind, term, term));
                onlyGoodTerms("compare, kind " + kind + ", a", -3, (x, a) -> x.compare(kind, a, 0));
                onlyGoodTerms("compare, kind " + kind + ", b", -3, (x, b) -> x.compare(kind, 0, b));
                onlyGoodTerms("compare, kind " + kind + ", both", -3,
                    (x, term) -> x.compare(kind, term, term));
            }
        });
        Check.sentence("9. otherwise answers its number, from 0 to 15", () -> forEachWidth(w -> {
            BitBlaster x = Fixture.withVariables(w);
            for (int i = 0; i < 16; i++) {
                Check.due("compare number " + i, x.compare(i % 2, 0, 0), i);
            }
            for (int i = 0; i < 16; i++) {
                Check.due("truth of compare number " + i, x.holds(i, 0), i % 2 == 0 ? 1 : 0);
            }
        }));
    }

    private static void compareIs(int w, int kind, int a, int b, int want) {
        BitBlaster x = Fixture.withVariables(w);
        x.compare(kind, 1, 2);
        Check.due("kind " + kind + " of " + a + " and " + b + ", width " + w,
            x.holds(0, Fixture.numberOf(w, 0, a, b)), want);
    }

    private static void connect() {
        Check.sentence("10. both, at least one, or just one, of a test and itself", () ->
            forEachWidth(w -> {
                BitBlaster x = Fixture.withVariables(w);
                x.compare(BitBlaster.EQUAL, 0, 0);
                x.compare(BitBlaster.LESS, 0, 0);
                for (int kind = 0; kind <= 2; kind++) {
                    Check.due("kind " + kind + " of always and always", x.follows(x.connect(kind, 0, 0)),
                        kind == 2 ? 0 : 1);
                    Check.due("kind " + kind + " of never and never", x.follows(x.connect(kind, 1, 1)), 0);
                    Check.due("kind " + kind + " of always and never", x.follows(x.connect(kind, 0, 1)),
                        kind == 0 ? 0 : 1);
                    Check.due("kind " + kind + " of never and always", x.follows(x.connect(kind, 1, 0)),
                        kind == 0 ? 0 : 1);
                }
            }));
        Check.sentence("10. -1 if kind is not in 0 .. 2", () ->
            onlyInside("connect, kind", w -> Fixture.with(w, 7, 5, 0), 0, 2, -1,
                (x, kind) -> x.connect(kind, 0, 1)));
        Check.sentence("10. -2 if there are 16 tests", () -> {
            for (int i = 0; i <= 2; i++) {
                int kind = i;
                atMost16Tests("connect, kind " + kind, x -> x.connect(kind, 0, 1));
            }
        });
        Check.sentence("10. -3 if s or t is not good", () -> {
            for (int i = 0; i <= 2; i++) {
                int kind = i;
                noneGood("connect, kind " + kind, w -> Fixture.withVariables(w), -3,
                    (x, test) -> x.connect(kind, test, test));
                onlyGoodTests("connect, kind " + kind + ", s", -3, (x, s) -> x.connect(kind, s, 0));
                onlyGoodTests("connect, kind " + kind + ", t", -3, (x, t) -> x.connect(kind, 0, t));
                onlyGoodTests("connect, kind " + kind + ", both", -3,
                    (x, test) -> x.connect(kind, test, test));
            }
        });
        Check.sentence("10. otherwise answers its number, up to 15", () -> forEachWidth(w -> {
            BitBlaster x = Fixture.with(w, 3, 2, 0);
            for (int i = 2; i < 16; i++) {
                Check.due("connect number " + i, x.connect(2, i - 1, i - 2), i);
            }
            // Just one of the two before: as in 1, 0, 1, 1, 0, 1, 1, 0 .., test 0 holding under 0.
            for (int i = 0; i < 16; i++) {
                Check.due("truth of test " + i, x.holds(i, 0), i % 3 == 1 ? 0 : 1);
            }
        }));
    }

    private static void requireAndRelease() {
        Check.sentence("11. sign not 0 asks that the test holds", () -> forEachWidth(w -> {
            int[] signs = {1, -1, 2, -2, 256, -256, 65536, MIN, MIN + 1, MAX};
            for (int sign : signs) {
                BitBlaster x = Fixture.withVariables(w);
                Check.due("require(.., " + sign + ")", x.require(Fixture.onlyUnder(x, 5), sign), 1);
                Check.due("count() with sign " + sign, x.count(), 1);
                Check.due("next(-1) with sign " + sign, x.next(-1), 5);
            }
        }));
        Check.sentence("11. sign 0 that it does not", () -> forEachWidth(w -> {
            BitBlaster x = Fixture.withVariables(w);
            Check.due("require(.., 0)", x.require(Fixture.onlyUnder(x, 5), 0), 1);
            Check.due("count() with sign 0", x.count(), Fixture.lastNumber(w));
            Check.due("next(4) with sign 0", x.next(4), 6);
        }));
        Check.sentence("11. -1 if test is not good", () -> {
            for (int i = 0; i <= 1; i++) {
                int sign = i;
                noneGood("require, sign " + sign, w -> Fixture.withVariables(w), -1,
                    (x, test) -> x.require(test, sign));
                onlyGoodTests("require, sign " + sign, -1, (x, test) -> x.require(test, sign));
                onlyInside("require of 16 tests, sign " + sign, w -> Fixture.with(w, 28, 16, 9),
                    0, 15, -1, (x, test) -> x.require(test, sign));
            }
        });
        Check.sentence("11. -2 if there are 10 constraints", () -> forEachWidth(w -> {
            BitBlaster x = Fixture.with(w, 3, 2, 9);
            int solutions = x.count();
            int sign = x.holds(0, 0);
            Check.due("require with 9 constraints", x.require(0, sign), 10);
            Check.due("require with 10 constraints", x.require(0, 1 - sign), -2);
            Check.due("require with 10 constraints again", x.require(1, sign), -2);
            Check.due("count() after the refusals", x.count(), solutions);
            Check.due("release() after the refusals", x.release(), 9);
            Check.due("require with 9 constraints again", x.require(0, 1 - sign), 10);
            Check.due("count() with both signs", x.count(), 0);
            Check.due("require with 10 constraints, full", Fixture.with(w, 28, 16, 10).require(0, 1), -2);
        }));
        Check.sentence("11. otherwise answers how many there are now, the same one counting again", () ->
            forEachWidth(w -> {
                BitBlaster x = Fixture.with(w, 3, 1, 0);
                for (int i = 1; i <= 10; i++) {
                    Check.due("require of the same", x.require(0, 1), i);
                }
            }));
        Check.sentence("12. Takes the last constraint away", () -> forEachWidth(w -> {
            BitBlaster x = Fixture.withVariables(w);
            int only = Fixture.onlyUnder(x, 2);
            int never = x.compare(BitBlaster.LESS, 0, 0);
            x.require(only, 0);
            x.require(never, 0);
            x.require(only, 0);
            x.require(never, 1);
            int[] counts = {0, Fixture.lastNumber(w), Fixture.lastNumber(w), Fixture.lastNumber(w),
                Fixture.lastNumber(w) + 1};
            for (int left = 4; left >= 0; left--) {
                Check.due("count() with " + left + " left", x.count(), counts[4 - left]);
                Check.due("release() with " + left + " left", x.release(), left - 1);
            }
        }));
        Check.sentence("12. -1 if there is none", () -> forEachWidth(w -> {
            Check.due("release() of a new object", new BitBlaster(w).release(), -1);
            BitBlaster x = Fixture.with(w, 3, 2, 1);
            Check.due("release() of the only one", x.release(), 0);
            Check.due("release() with none", x.release(), -1);
            Check.due("release() with none again", x.release(), -1);
            Check.due("require after that", x.require(0, 0), 1);
            Check.due("release() after that", x.release(), 0);
        }));
        Check.sentence("12. otherwise answers how many are left, from 9 to 0", () -> forEachWidth(w -> {
            BitBlaster x = Fixture.with(w, 28, 16, 10);
            for (int left = 9; left >= 0; left--) {
                Check.due("release()", x.release(), left);
            }
            Check.due("release() of all", x.release(), -1);
            Check.due("count() without a constraint", x.count(), Fixture.lastNumber(w) + 1);
        }));
    }

    private static void termsAndTests() {
        Check.sentence("13. How many terms there are, from 0 to 28", () -> forEachWidth(w -> {
            BitBlaster x = new BitBlaster(w);
            for (int i = 0; i < 28; i++) {
                Check.due("terms()", x.terms(), i);
                x.constant(i);
            }
            Check.due("terms() when full", x.terms(), 28);
            x.constant(0);
            Check.due("terms() after a refusal", x.terms(), 28);
            Check.due("terms() beside tests and constraints", Fixture.with(w, 3, 16, 10).terms(), 3);
        }));
        Check.sentence("14. How many tests there are, from 0 to 16", () -> forEachWidth(w -> {
            BitBlaster x = Fixture.withVariables(w);
            for (int i = 0; i < 16; i++) {
                Check.due("tests()", x.tests(), i);
                x.compare(BitBlaster.LESS, 0, 1);
            }
            Check.due("tests() when full", x.tests(), 16);
            x.connect(0, 0, 1);
            Check.due("tests() after a refusal", x.tests(), 16);
            Check.due("tests() beside terms and constraints", Fixture.with(w, 28, 2, 10).tests(), 2);
        }));
    }

    private static void valueOfAndHolds() {
        Check.sentence("15. -1 if term is not good", () -> {
            noneGood("valueOf", w -> new BitBlaster(w), -1, (x, term) -> x.valueOf(term, 0));
            onlyGoodTerms("valueOf", -1, (x, term) -> x.valueOf(term, 7));
            onlyInside("valueOf of 28 terms", w -> Fixture.with(w, 28, 16, 10), 0, 27, -1,
                (x, term) -> x.valueOf(term, 0));
        });
        Check.sentence("15. -2 if number is not in 0 .. 2^(3*w) - 1", () -> {
            numberInside("valueOf", (x, number) -> x.valueOf(2, number));
            numberInside("valueOf the last", (x, number) -> x.valueOf(27, number));
        });
        Check.sentence("15. the value under the first and the last assignment, solution or not", () ->
            forEachWidth(w -> {
                BitBlaster x = Fixture.withOneSolution(w, 1);
                for (int v = 0; v < 3; v++) {
                    Check.due("valueOf(" + v + ", 0)", x.valueOf(v, 0), 0);
                    Check.due("valueOf(" + v + ", the last)", x.valueOf(v, Fixture.lastNumber(w)),
                        Fixture.lastWord(w));
                }
            }));
        Check.sentence("16. -1 if test is not good", () -> {
            noneGood("holds", w -> Fixture.withVariables(w), -1, (x, test) -> x.holds(test, 0));
            onlyGoodTests("holds", -1, (x, test) -> x.holds(test, 7));
            onlyInside("holds of 16 tests", w -> Fixture.with(w, 28, 16, 10), 0, 15, -1,
                (x, test) -> x.holds(test, 0));
        });
        Check.sentence("16. -2 if number is not in 0 .. 2^(3*w) - 1", () -> {
            numberInside("holds", (x, number) -> x.holds(0, number));
            numberInside("holds of the last", (x, number) -> x.holds(15, number));
        });
        Check.sentence("16. under the first and the last assignment, solution or not", () ->
            forEachWidth(w -> {
                int[] numbers = {0, Fixture.lastNumber(w)};
                for (int number : numbers) {
                    BitBlaster x = Fixture.withOneSolution(w, 1);
                    int test = Fixture.onlyUnder(x, number);
                    Check.due("holds under 0", x.holds(test, 0), number == 0 ? 1 : 0);
                    Check.due("holds under 1", x.holds(test, 1), 0);
                    Check.due("holds under the last", x.holds(test, Fixture.lastNumber(w)),
                        number == 0 ? 0 : 1);
                }
            }));
    }

    private static void numberInside(String what, CallWith call) {
        forEachWidth(w -> {
            int last = Fixture.lastNumber(w);
            BitBlaster x = Fixture.with(w, 28, 16, 10);
            for (int number : Fixture.outside(0, last)) {
                Check.due(what + " under " + number + ", width " + w, call.on(x, number), -2);
            }
            Check.due(what + " under 4096, width " + w, call.on(x, 4096), -2);
            Check.isTrue(what + " under 0, width " + w + ", is taken", call.on(x, 0) >= 0);
            Check.isTrue(what + " under " + last + ", width " + w + ", is taken", call.on(x, last) >= 0);
        });
    }

    private static void solvableAndCount() {
        Check.sentence("17. 1 if there is a solution: all, or the first or the last alone", () ->
            forEachWidth(w -> {
                Check.due("solvable() of a new object", new BitBlaster(w).solvable(), 1);
                Check.due("solvable() by 0", Fixture.withOneSolution(w, 0).solvable(), 1);
                Check.due("solvable() by the last",
                    Fixture.withOneSolution(w, Fixture.lastNumber(w)).solvable(), 1);
                Check.due("solvable() with 10 constraints", Fixture.with(w, 28, 16, 10).solvable(), 1);
            }));
        Check.sentence("17. otherwise 0", () -> forEachWidth(w -> {
            BitBlaster x = Fixture.withoutSolution(w);
            Check.due("solvable() with both signs", x.solvable(), 0);
            x.release();
            Check.due("solvable() after release", x.solvable(), 1);
            BitBlaster never = Fixture.withVariables(w);
            never.compare(BitBlaster.LESS, 0, 0);
            never.require(0, 1);
            Check.due("solvable() with a test that never holds", never.solvable(), 0);
        }));
        Check.sentence("19. How many solutions there are: none, one, all but one, all", () ->
            forEachWidth(w -> {
                int all = Fixture.lastNumber(w) + 1;
                Check.due("count() of a new object", new BitBlaster(w).count(), all);
                Check.due("count() of none", Fixture.withoutSolution(w).count(), 0);
                int[] numbers = {0, all - 1};
                for (int number : numbers) {
                    BitBlaster x = Fixture.withOneSolution(w, number);
                    Check.due("count() of one", x.count(), 1);
                    x.release();
                    Check.due("count() of all", x.count(), all);
                    x.require(x.tests() - 1, 0);
                    Check.due("count() of all but one", x.count(), all - 1);
                }
            }));
    }

    private static void next() {
        Check.sentence("18. The least number of a solution that is greater than after", () ->
            forEachWidth(w -> {
                int last = Fixture.lastNumber(w);
                int[] numbers = {0, 1, last - 1, last};
                for (int number : numbers) {
                    BitBlaster x = Fixture.withOneSolution(w, number);
                    Check.due("next(-1)", x.next(-1), number);
                    Check.due("next(one before)", x.next(number - 1), number);
                    Check.due("next(it)", x.next(number), -1);
                    Check.due("next(one after)", x.next(number + 1), -1);
                    x.release();
                    x.require(x.tests() - 1, 0);
                    Check.due("next over the one that is no solution", x.next(number - 1),
                        number == last ? -1 : number + 1);
                }
            }));
        Check.sentence("18. (any int)", () -> forEachWidth(w -> {
            int last = Fixture.lastNumber(w);
            BitBlaster x = new BitBlaster(w);
            int[] below = {MIN, MIN + 1, -65536, -4097, -4096, -256, -2, -1};
            int[] above = {last, last + 1, 4095, 4096, 65536, MAX - 1, MAX};
            for (int after : below) {
                Check.due("next(" + after + "), width " + w, x.next(after), 0);
            }
            for (int after : above) {
                Check.due("next(" + after + "), width " + w, x.next(after), -1);
            }
            Check.due("next(0), width " + w, x.next(0), 1);
            Check.due("next(one before the last), width " + w, x.next(last - 1), last);
        }));
        Check.sentence("18. -1 if there is none", () -> forEachWidth(w -> {
            BitBlaster x = Fixture.withoutSolution(w);
            int[] afters = {MIN, -2, -1, 0, 1, Fixture.lastNumber(w), MAX};
            for (int after : afters) {
                Check.due("next(" + after + ") without a solution", x.next(after), -1);
            }
        }));
    }

    private static void leastAndGreatest() {
        Check.sentence("20. The least value in a solution, from 0 to 2^w - 1", () -> forEachWidth(w -> {
            extremesOfOneSolution("least", w, (x, term) -> x.least(term));
            BitBlaster x = new BitBlaster(w);
            x.variable(2);
            Check.due("least of all words", x.least(0), 0);
        }));
        Check.sentence("20. -1 if term is not good", () -> {
            noneGood("least", w -> new BitBlaster(w), -1, (x, term) -> x.least(term));
            onlyGoodTerms("least", -1, (x, term) -> x.least(term));
            onlyInside("least of 28 terms", w -> Fixture.with(w, 28, 16, 10), 0, 27, -1,
                (x, term) -> x.least(term));
        });
        Check.sentence("20. -2 if there is no solution", () ->
            withoutSolution("least", (x, term) -> x.least(term)));
        Check.sentence("21. The greatest value in a solution, from 0 to 2^w - 1", () ->
            forEachWidth(w -> {
                extremesOfOneSolution("greatest", w, (x, term) -> x.greatest(term));
                BitBlaster x = new BitBlaster(w);
                x.variable(2);
                Check.due("greatest of all words", x.greatest(0), Fixture.lastWord(w));
            }));
        Check.sentence("21. -1 if term is not good", () -> {
            noneGood("greatest", w -> new BitBlaster(w), -1, (x, term) -> x.greatest(term));
            onlyGoodTerms("greatest", -1, (x, term) -> x.greatest(term));
            onlyInside("greatest of 28 terms", w -> Fixture.with(w, 28, 16, 10), 0, 27, -1,
                (x, term) -> x.greatest(term));
        });
        Check.sentence("21. -2 if there is no solution", () ->
            withoutSolution("greatest", (x, term) -> x.greatest(term)));
    }

    /** One solution leaves one value of each variable, though others have been seen before it. */
    private static void extremesOfOneSolution(String what, int w, CallWith call) {
        int last = Fixture.lastWord(w);
        int[] values = {0, last, Fixture.words(w) / 2};
        for (int value : values) {
            BitBlaster x = Fixture.withOneSolution(w, Fixture.numberOf(w, value, last - value, value));
            Check.due(what + " of variable 0, which is " + value, call.on(x, 0), value);
            Check.due(what + " of variable 1, which is " + (last - value), call.on(x, 1), last - value);
            Check.due(what + " of variable 2, which is " + value, call.on(x, 2), value);
        }
    }

    private static void withoutSolution(String what, CallWith call) {
        forEachWidth(w -> {
            BitBlaster x = Fixture.withoutSolution(w);
            int first = x.constant(0);
            int last = x.constant(-1);
            for (int term = 0; term < x.terms(); term++) {
                Check.due(what + "(" + term + ") without a solution", call.on(x, term), -2);
            }
            x.release();
            Check.due(what + " of 0 with a solution again", call.on(x, first), 0);
            Check.due(what + " of the greatest word again", call.on(x, last), Fixture.lastWord(w));
        });
    }

    private static void follows() {
        Check.sentence("22. 1 if the test holds under all solutions", () -> forEachWidth(w -> {
            BitBlaster x = Fixture.withVariables(w);
            x.compare(BitBlaster.EQUAL, 0, 0);
            Check.due("follows of always, no constraint", x.follows(0), 1);
            for (int number : new int[] {0, Fixture.lastNumber(w)}) {
                BitBlaster one = Fixture.withOneSolution(w, number);
                Check.due("follows of the constraint", one.follows(one.tests() - 1), 1);
            }
        }));
        Check.sentence("22. 0 if it holds under none", () -> forEachWidth(w -> {
            BitBlaster x = Fixture.withVariables(w);
            x.compare(BitBlaster.LESS, 0, 0);
            Check.due("follows of never, no constraint", x.follows(0), 0);
            for (int number : new int[] {0, Fixture.lastNumber(w)}) {
                BitBlaster others = Fixture.withVariables(w);
                int test = Fixture.onlyUnder(others, number);
                others.require(test, 0);
                Check.due("follows of what is required not to hold", others.follows(test), 0);
            }
        }));
        Check.sentence("22. 2 otherwise, be it for one solution", () -> forEachWidth(w -> {
            for (int number : new int[] {0, 1, Fixture.lastNumber(w) - 1, Fixture.lastNumber(w)}) {
                BitBlaster x = Fixture.withVariables(w);
                int test = Fixture.onlyUnder(x, number);
                int always = x.compare(BitBlaster.EQUAL, 0, 0);
                int turned = x.connect(2, always, test);
                Check.due("follows of what holds once, under " + number, x.follows(test), 2);
                Check.due("follows of what fails once, under " + number, x.follows(turned), 2);
            }
        }));
        Check.sentence("22. 1 if there is no solution", () -> forEachWidth(w -> {
            BitBlaster x = Fixture.withoutSolution(w);
            x.compare(BitBlaster.EQUAL, 0, 0);
            x.compare(BitBlaster.LESS, 0, 0);
            for (int test = 0; test < x.tests(); test++) {
                Check.due("follows(" + test + ") without a solution", x.follows(test), 1);
            }
        }));
        Check.sentence("22. -1 if test is not good", () -> {
            noneGood("follows", w -> Fixture.withVariables(w), -1, (x, test) -> x.follows(test));
            onlyGoodTests("follows", -1, (x, test) -> x.follows(test));
            onlyInside("follows of 16 tests", w -> Fixture.with(w, 28, 16, 10), 0, 15, -1,
                (x, test) -> x.follows(test));
        });
    }

    private static void same() {
        Check.sentence("23. the same value under every assignment, otherwise 0", () -> forEachWidth(w -> {
            for (int number : new int[] {0, 1, Fixture.lastNumber(w) - 1, Fixture.lastNumber(w)}) {
                BitBlaster x = Fixture.withVariables(w);
                int test = Fixture.onlyUnder(x, number);
                int inverted = x.invert(1);
                int but = x.choose(test, inverted, 1);
                Check.due("same but under " + number, x.same(1, but), 0);
                Check.due("same but under " + number + ", turned", x.same(but, 1), 0);
                Check.due("same as itself", x.same(but, but), 1);
                Check.due("same as another alike", x.same(but, x.choose(test, inverted, 1)), 1);
            }
        }));
        Check.sentence("23. (solution or not)", () -> forEachWidth(w -> {
            BitBlaster x = Fixture.withVariables(w);
            x.variable(0);
            x.compare(BitBlaster.EQUAL, 0, 1);
            x.require(0, 1);
            Check.due("same only under the solutions", x.same(0, 1), 0);
            Check.due("same under all", x.same(0, 3), 1);
            x.require(0, 0);
            Check.due("different, without a solution", x.same(0, 1), 0);
            Check.due("same, without a solution", x.same(0, 3), 1);
        }));
        Check.sentence("23. -1 if a or b is not good", () -> {
            noneGood("same", w -> new BitBlaster(w), -1, (x, term) -> x.same(term, term));
            onlyGoodTerms("same, a", -1, (x, a) -> x.same(a, 0));
            onlyGoodTerms("same, b", -1, (x, b) -> x.same(0, b));
            onlyGoodTerms("same, both", -1, (x, term) -> x.same(term, term));
            onlyInside("same of 28 terms", w -> Fixture.with(w, 28, 16, 10), 0, 27, -1,
                (x, term) -> x.same(term, 27));
        });
    }
}
