import java.util.ArrayList;
import java.util.List;

/**
 * What the document says for every method alike, most of it under 'Terms', each sentence with a
 * test of its own.
 */
public final class EveryMethodTest {
    private static final int MIN = Fixture.MIN;
    private static final int MAX = Fixture.MAX;

    private interface Call {
        int on(BitBlaster x);
    }

    private interface Asking {
        void ask(BitBlaster x, int w, List<Integer> answers);
    }

    /** A call and what it answers in the state that it was thought out for. */
    private record Due(String text, int answer, Call call) {
    }

    /** So many of each thing; without a solution if there is to be none. */
    private record State(int w, int terms, int tests, int constraints, boolean solvable) {
        BitBlaster make() {
            return solvable ? Fixture.with(w, terms, tests, constraints) : Fixture.withoutSolution(w);
        }
    }

    public static void main(String[] args) {
        modulo();
        signedWords();
        numbersOfAssignments();
        limits();
        solutions();
        order();
        good();
        calls();
        Check.sentence("A refused call changes nothing", EveryMethodTest::refusedCalls);
        Check.sentence("No question changes anything", EveryMethodTest::questions);
        Check.end();
    }

    private static void modulo() {
        Check.sentence("arithmetic on words is modulo 2^w: a + b above 2^w - 1", () -> {
            for (int w = 1; w <= 4; w++) {
                int last = Fixture.lastWord(w);
                combineIs(w, BitBlaster.ADD, last, 1, 0);
                combineIs(w, BitBlaster.ADD, 1, last, 0);
                combineIs(w, BitBlaster.ADD, last, last, last - 1);
                combineIs(w, BitBlaster.ADD, last / 2 + 1, last / 2 + 1, 0);
                combineIs(w, BitBlaster.ADD, last, 0, last);
            }
        });
        Check.sentence("arithmetic on words is modulo 2^w: a - b below 0", () -> {
            for (int w = 1; w <= 4; w++) {
                int last = Fixture.lastWord(w);
                combineIs(w, BitBlaster.SUB, 0, 1, last);
                combineIs(w, BitBlaster.SUB, 0, last, 1);
                combineIs(w, BitBlaster.SUB, last - 1, last, last);
                combineIs(w, BitBlaster.SUB, last, last, 0);
                combineIs(w, BitBlaster.SUB, last, 0, last);
            }
        });
        Check.sentence("arithmetic on words is modulo 2^w: a * b above 2^w - 1", () -> {
            for (int w = 1; w <= 4; w++) {
                int last = Fixture.lastWord(w);
                combineIs(w, BitBlaster.MUL, last, last, 1);
                combineIs(w, BitBlaster.MUL, last, 0, 0);
                combineIs(w, BitBlaster.MUL, last, 1, last);
                combineIs(w, BitBlaster.MUL, last / 2 + 1, last - 1, 0);
                combineIs(w, BitBlaster.MUL, last - 1, last, w == 1 ? 0 : 2);
            }
        });
        Check.sentence("a word is 0 .. 2^w - 1: bitwise kinds at both ends", () -> {
            for (int w = 1; w <= 4; w++) {
                int last = Fixture.lastWord(w);
                int[] kinds = {BitBlaster.AND, BitBlaster.OR, BitBlaster.XOR};
                int[] ofLastAndLast = {last, last, 0};
                int[] ofLastAnd0 = {0, last, last};
                for (int i = 0; i < 3; i++) {
                    combineIs(w, kinds[i], last, last, ofLastAndLast[i]);
                    combineIs(w, kinds[i], last, 0, ofLastAnd0[i]);
                    combineIs(w, kinds[i], 0, last, ofLastAnd0[i]);
                    combineIs(w, kinds[i], 0, 0, 0);
                }
            }
        });
        Check.sentence("arithmetic on words is modulo 2^w: also when it goes on", EveryMethodTest::goesOn);
    }

    private static void combineIs(int w, int kind, int a, int b, int want) {
        BitBlaster x = Fixture.withVariables(w);
        int ofVariables = x.combine(kind, 0, 2);
        int ofConstants = x.combine(kind, x.constant(a), x.constant(b));
        String of = "kind " + kind + " of " + a + " and " + b + ", width " + w;
        Check.due(of, x.valueOf(ofVariables, Fixture.numberOf(w, a, 0, b)), want);
        Check.due(of + ", constants", x.valueOf(ofConstants, 0), want);
        Check.due(of + ", constants, greatest", x.greatest(ofConstants), want);
    }

    /** A word that had wrapped around is a word like others: shifted, compared and used again. */
    private static void goesOn() {
        for (int w = 1; w <= 4; w++) {
            BitBlaster x = Fixture.withVariables(w);
            int one = x.constant(1);
            int zero = x.constant(0);
            int last = x.constant(-1);
            int wrapped = x.combine(BitBlaster.ADD, last, one);
            int wrappedBack = x.combine(BitBlaster.SUB, wrapped, one);
            int inverted = x.invert(wrapped);
            Check.due("the shift right of 0 - 1", x.same(x.shift(wrappedBack, -1), x.shift(last, -1)), 1);
            Check.due("the shift right of an inverted 0", x.same(x.shift(inverted, -w), zero), 1);
            Check.due("2^w = 0", x.follows(x.compare(BitBlaster.EQUAL, wrapped, zero)), 1);
            Check.due("2^w < 1", x.follows(x.compare(BitBlaster.LESS, wrapped, one)), 1);
            Check.due("0 - 1 < 0", x.follows(x.compare(BitBlaster.LESS, wrappedBack, zero)), 0);
            Check.due("0 - 1 < 0, signed",
                x.follows(x.compare(BitBlaster.SIGNED_LESS, wrappedBack, zero)), 1);
            int sum = x.combine(BitBlaster.ADD, 0, 1);
            int back = x.combine(BitBlaster.SUB, sum, 1);
            Check.due("a + b - b", x.same(back, 0), 1);
        }
    }

    private static void signedWords() {
        Check.sentence("a word x of at least 2^(w-1) stands for x - 2^w, others for themselves", () -> {
            for (int w = 1; w <= 4; w++) {
                BitBlaster x = Fixture.withVariables(w);
                x.compare(BitBlaster.SIGNED_LESS, 0, 1);
                int half = Fixture.words(w) / 2;
                for (int a = 0; a < Fixture.words(w); a++) {
                    for (int b = 0; b < Fixture.words(w); b++) {
                        int signedA = a >= half ? a - Fixture.words(w) : a;
                        int signedB = b >= half ? b - Fixture.words(w) : b;
                        Check.due(a + " < " + b + ", signed, width " + w,
                            x.holds(0, Fixture.numberOf(w, a, b, 0)), signedA < signedB ? 1 : 0);
                    }
                }
            }
        });
    }

    private static void numbersOfAssignments() {
        Check.sentence("its number is x0 * 2^(2*w) + x1 * 2^w + x2", () -> {
            for (int w = 1; w <= 4; w++) {
                BitBlaster x = Fixture.withVariables(w);
                int last = Fixture.lastWord(w);
                for (int corner = 0; corner < 8; corner++) {
                    int[] values = {corner / 4 * last, corner / 2 % 2 * last, corner % 2 * last};
                    int number = Fixture.numberOf(w, values[0], values[1], values[2]);
                    for (int v = 0; v < 3; v++) {
                        Check.due("variable " + v + " under " + number, x.valueOf(v, number), values[v]);
                    }
                }
            }
        });
    }

    private static void limits() {
        Check.sentence("Terms, at most 28, numbered in the order in which they are made", () -> {
            for (int w = 1; w <= 4; w++) {
                BitBlaster x = Fixture.with(w, 1, 1, 0);
                for (int i = 1; i < 28; i++) {
                    Check.due("term " + i, anyTerm(x, i), i);
                }
                for (int i = 28; i < 40; i++) {
                    Check.due("a term too many", anyTerm(x, i), -2);
                }
                Check.due("terms()", x.terms(), 28);
            }
        });
        Check.sentence("Tests, at most 16, numbered in the same way", () -> {
            for (int w = 1; w <= 4; w++) {
                BitBlaster x = Fixture.with(w, 3, 1, 0);
                for (int i = 1; i < 16; i++) {
                    Check.due("test " + i, anyTest(x, i), i);
                }
                for (int i = 16; i < 24; i++) {
                    Check.due("a test too many", anyTest(x, i), -2);
                }
                Check.due("tests()", x.tests(), 16);
            }
        });
        Check.sentence("a list of at most 10 constraints", () -> {
            for (int w = 1; w <= 4; w++) {
                BitBlaster x = Fixture.with(w, 3, 16, 0);
                for (int i = 1; i <= 10; i++) {
                    Check.due("constraint " + i, x.require(i, i % 2), i);
                }
                for (int i = 0; i < 10; i++) {
                    Check.due("a constraint too many", x.require(i, i % 2), -2);
                }
                Check.due("release()", x.release(), 9);
            }
        });
        Check.sentence("a full list of one kind does not fill the others", () -> {
            for (int w = 1; w <= 4; w++) {
                BitBlaster x = Fixture.with(w, 28, 0, 0);
                for (int i = 0; i < 16; i++) {
                    Check.due("test " + i + " of full terms", x.compare(i % 3, 27, i), i);
                }
                for (int i = 1; i <= 10; i++) {
                    Check.due("constraint " + i + " of full tests", x.require(15, 0), i);
                }
            }
        });
    }

    private static int anyTerm(BitBlaster x, int i) {
        switch (i % 6) {
            case 0:
                return x.variable(i % 3);
            case 1:
                return x.constant(i);
            case 2:
                return x.combine(i / 6 % 6, 0, 0);
            case 3:
                return x.invert(0);
            case 4:
                return x.shift(0, i / 6 % 5);
            default:
                return x.choose(0, 0, 0);
        }
    }

    private static int anyTest(BitBlaster x, int i) {
        return i % 2 == 0 ? x.compare(i % 3, 0, 1) : x.connect(i % 3, 0, 0);
    }

    private static void solutions() {
        Check.sentence("a solution if it fulfils all constraints: of none, all are", () -> {
            for (int w = 1; w <= 4; w++) {
                BitBlaster x = new BitBlaster(w);
                Check.due("count() without constraints", x.count(), Fixture.lastNumber(w) + 1);
                Check.due("next(-1) without constraints", x.next(-1), 0);
            }
        });
        Check.sentence("a solution if it fulfils all constraints: the first and the tenth too", () -> {
            for (int w = 1; w <= 4; w++) {
                int all = Fixture.lastNumber(w) + 1;
                for (int place = 0; place < 10; place++) {
                    BitBlaster x = Fixture.withVariables(w);
                    int only = Fixture.onlyUnder(x, 3);
                    int always = x.compare(BitBlaster.EQUAL, 0, 0);
                    for (int i = 0; i < 10; i++) {
                        x.require(i == place ? only : always, 1);
                    }
                    String where = " with the narrow one in place " + place;
                    Check.due("count()" + where, x.count(), 1);
                    Check.due("next(-1)" + where, x.next(-1), 3);
                    for (int left = 9; left >= 0; left--) {
                        x.release();
                        Check.due("count()" + where + ", " + left + " left", x.count(),
                            left > place ? 1 : all);
                    }
                }
            }
        });
    }

    /** Each method is asked with every two of its refusals at once: the one named first answers. */
    private static void order() {
        Check.sentence("the tests are made in the order named: variable", () ->
            dueIn(fullTerms(),
                new Due("v, full", -1, x -> x.variable(-1)),
                new Due("v, full", -1, x -> x.variable(3))));
        Check.sentence("the tests are made in the order named: combine", () -> {
            dueIn(some(),
                new Due("kind, a", -1, x -> x.combine(6, 5, 0)),
                new Due("kind, b", -1, x -> x.combine(-1, 0, -1)));
            dueIn(fullTerms(),
                new Due("kind, full", -1, x -> x.combine(6, 0, 1)),
                new Due("kind, full, a, b", -1, x -> x.combine(-1, 28, -1)),
                new Due("full, a", -2, x -> x.combine(0, 28, 0)),
                new Due("full, b", -2, x -> x.combine(5, 0, -1)));
        });
        Check.sentence("the tests are made in the order named: invert", () ->
            dueIn(fullTerms(),
                new Due("full, a", -2, x -> x.invert(28)),
                new Due("full, a", -2, x -> x.invert(-1))));
        Check.sentence("the tests are made in the order named: shift", () -> {
            dueIn(some(),
                new Due("by, a", -1, x -> x.shift(5, 5)),
                new Due("by, a", -1, x -> x.shift(-1, -5)));
            dueIn(fullTerms(),
                new Due("by, full", -1, x -> x.shift(0, -5)),
                new Due("by, full, a", -1, x -> x.shift(28, 5)),
                new Due("full, a", -2, x -> x.shift(28, 4)),
                new Due("full, a", -2, x -> x.shift(-1, -4)));
        });
        Check.sentence("the tests are made in the order named: choose", () -> {
            dueIn(some(),
                new Due("test, a", -1, x -> x.choose(2, 5, 0)),
                new Due("test, b", -1, x -> x.choose(-1, 0, -1)));
            dueIn(fullTerms(),
                new Due("test, full", -1, x -> x.choose(1, 0, 0)),
                new Due("test, full, a, b", -1, x -> x.choose(-1, 28, -1)),
                new Due("full, a", -2, x -> x.choose(0, 28, 0)),
                new Due("full, b", -2, x -> x.choose(0, 0, -1)));
        });
        Check.sentence("the tests are made in the order named: compare", () -> {
            dueIn(some(),
                new Due("kind, a", -1, x -> x.compare(3, 5, 0)),
                new Due("kind, b", -1, x -> x.compare(-1, 0, -1)));
            dueIn(fullTests(),
                new Due("kind, full", -1, x -> x.compare(3, 0, 0)),
                new Due("kind, full, a, b", -1, x -> x.compare(-1, 3, -1)),
                new Due("full, a", -2, x -> x.compare(0, 3, 0)),
                new Due("full, b", -2, x -> x.compare(2, 0, -1)));
        });
        Check.sentence("the tests are made in the order named: connect", () -> {
            dueIn(some(),
                new Due("kind, s", -1, x -> x.connect(3, 2, 0)),
                new Due("kind, t", -1, x -> x.connect(-1, 0, -1)));
            dueIn(fullTests(),
                new Due("kind, full", -1, x -> x.connect(3, 0, 0)),
                new Due("kind, full, s, t", -1, x -> x.connect(-1, 16, -1)),
                new Due("full, s", -2, x -> x.connect(0, 16, 0)),
                new Due("full, t", -2, x -> x.connect(2, 0, -1)));
        });
        Check.sentence("the tests are made in the order named: require", () ->
            dueIn(fullConstraints(),
                new Due("test, full", -1, x -> x.require(2, 1)),
                new Due("test, full", -1, x -> x.require(-1, 0))));
        Check.sentence("the tests are made in the order named: valueOf", () ->
            dueIn(some(),
                new Due("term, number", -1, x -> x.valueOf(5, -1)),
                new Due("term, number", -1, x -> x.valueOf(-1, MAX)),
                new Due("term, number", -1, x -> x.valueOf(MAX, 4096))));
        Check.sentence("the tests are made in the order named: holds", () ->
            dueIn(some(),
                new Due("test, number", -1, x -> x.holds(2, -1)),
                new Due("test, number", -1, x -> x.holds(-1, MAX)),
                new Due("test, number", -1, x -> x.holds(MAX, 4096))));
        Check.sentence("the tests are made in the order named: least", () ->
            dueIn(noSolution(),
                new Due("term, no solution", -1, x -> x.least(5)),
                new Due("term, no solution", -1, x -> x.least(-1))));
        Check.sentence("the tests are made in the order named: greatest", () ->
            dueIn(noSolution(),
                new Due("term, no solution", -1, x -> x.greatest(5)),
                new Due("term, no solution", -1, x -> x.greatest(-1))));
        // The answers 1, 0 and 2 are named before -1, but a test that is not there has none of them.
        Check.sentence("a test that is not good has no answer, solutions or none: follows", () ->
            dueIn(noSolution(),
                new Due("test, no solution", -1, x -> x.follows(2)),
                new Due("test, no solution", -1, x -> x.follows(-1))));
        Check.sentence("a term that is not good has no answer, solutions or none: same", () ->
            dueIn(noSolution(),
                new Due("terms, no solution", -1, x -> x.same(5, 5)),
                new Due("terms, no solution", -1, x -> x.same(-1, -1))));
    }

    private static List<State> forEachWidth(int terms, int tests, int constraints, boolean solvable) {
        List<State> states = new ArrayList<>();
        for (int w = 1; w <= 4; w++) {
            states.add(new State(w, terms, tests, constraints, solvable));
        }
        return states;
    }

    private static List<State> some() {
        return forEachWidth(5, 2, 1, true);
    }

    private static List<State> fullTerms() {
        return forEachWidth(28, 1, 1, true);
    }

    private static List<State> fullTests() {
        return forEachWidth(3, 16, 1, true);
    }

    private static List<State> fullConstraints() {
        return forEachWidth(3, 2, 10, true);
    }

    private static List<State> noSolution() {
        return forEachWidth(5, 2, 3, false);
    }

    private static void dueIn(List<State> states, Due... calls) {
        for (State state : states) {
            for (Due due : calls) {
                Check.due(due.text + " wrong, in " + state, due.call.on(state.make()), due.answer);
            }
        }
    }

    private static void good() {
        Check.sentence("a term is good if there is such a one, whatever tests there are", () ->
            dueIn(forEachWidth(1, 5, 0, true),
                new Due("combine, a", -3, x -> x.combine(0, 1, 0)),
                new Due("combine, b", -3, x -> x.combine(0, 0, 1)),
                new Due("invert, a", -3, x -> x.invert(1)),
                new Due("shift, a", -3, x -> x.shift(1, 0)),
                new Due("choose, a", -3, x -> x.choose(4, 1, 0)),
                new Due("choose, b", -3, x -> x.choose(4, 0, 1)),
                new Due("compare, a", -3, x -> x.compare(0, 1, 0)),
                new Due("compare, b", -3, x -> x.compare(0, 0, 1)),
                new Due("valueOf, term", -1, x -> x.valueOf(1, 0)),
                new Due("least, term", -1, x -> x.least(1)),
                new Due("greatest, term", -1, x -> x.greatest(1)),
                new Due("same, a", -1, x -> x.same(1, 0)),
                new Due("same, b", -1, x -> x.same(0, 1))));
        Check.sentence("a test is good if there is such a one, whatever terms there are", () ->
            dueIn(forEachWidth(9, 1, 0, true),
                new Due("choose, test", -1, x -> x.choose(1, 8, 8)),
                new Due("connect, s", -3, x -> x.connect(0, 1, 0)),
                new Due("connect, t", -3, x -> x.connect(0, 0, 1)),
                new Due("require, test", -1, x -> x.require(1, 1)),
                new Due("holds, test", -1, x -> x.holds(1, 0)),
                new Due("follows, test", -1, x -> x.follows(1))));
        Check.sentence("a term or test is good as soon as it is made", () -> {
            for (int w = 1; w <= 4; w++) {
                BitBlaster x = new BitBlaster(w);
                Check.due("invert before", x.invert(0), -3);
                Check.due("the making", x.constant(1), 0);
                Check.due("invert after", x.invert(0), 1);
                Check.due("require before", x.require(0, 1), -1);
                Check.due("the making", x.compare(BitBlaster.LESS, 0, 1), 0);
                Check.due("require after", x.require(0, 1), 1);
            }
        });
    }

    private static void calls() {
        Check.sentence("used for at most 512 calls: the last of them answers as the first", () -> {
            for (int w = 1; w <= 4; w++) {
                BitBlaster x = new BitBlaster(w);
                x.variable(0);
                x.variable(2);
                x.compare(BitBlaster.EQUAL, 0, 1);
                int all = Fixture.lastNumber(w) + 1;
                for (int before = 3; before < 510; before += 3) {
                    Check.due("require after " + before + " calls", x.require(0, 1), 1);
                    Check.due("count after that", x.count(), all / Fixture.words(w));
                    Check.due("release after that", x.release(), 0);
                }
                Check.due("the making of a term by call 511", x.invert(1), 2);
                Check.due("the value of that term, as call 512", x.valueOf(2, 0), Fixture.lastWord(w));
            }
        });
    }

    private static List<State> states(int w) {
        return List.of(
            new State(w, 0, 0, 0, true),
            new State(w, 1, 5, 0, true),
            new State(w, 5, 2, 1, true),
            new State(w, 5, 2, 3, false),
            new State(w, 7, 10, 10, true),
            new State(w, 28, 16, 0, true),
            new State(w, 28, 2, 10, true),
            new State(w, 3, 16, 10, true),
            new State(w, 28, 16, 10, true));
    }

    private static void refusedCalls() {
        for (int w = 1; w <= 4; w++) {
            for (State state : states(w)) {
                leaveAllAsItWas(state, refusals(state));
            }
        }
    }

    private static void questions() {
        for (int w = 1; w <= 4; w++) {
            for (State state : states(w)) {
                leaveAllAsItWas(state, askings(state));
            }
        }
    }

    /** The calls that the document refuses in this state, with what it says they answer. */
    private static List<Due> refusals(State state) {
        List<Due> calls = new ArrayList<>();
        int terms = state.terms;
        int tests = state.tests;
        int last = Fixture.lastNumber(state.w);
        calls.add(new Due("variable(-1)", -1, x -> x.variable(-1)));
        calls.add(new Due("variable(3)", -1, x -> x.variable(3)));
        calls.add(new Due("combine, kind 6", -1, x -> x.combine(6, 0, 0)));
        calls.add(new Due("combine, kind -1", -1, x -> x.combine(-1, 0, 0)));
        calls.add(new Due("shift by 5", -1, x -> x.shift(0, 5)));
        calls.add(new Due("shift by -5", -1, x -> x.shift(0, -5)));
        calls.add(new Due("choose, test", -1, x -> x.choose(tests, 0, 0)));
        calls.add(new Due("choose, test -1", -1, x -> x.choose(-1, 0, 0)));
        calls.add(new Due("compare, kind 3", -1, x -> x.compare(3, 0, 0)));
        calls.add(new Due("compare, kind -1", -1, x -> x.compare(-1, 0, 0)));
        calls.add(new Due("connect, kind 3", -1, x -> x.connect(3, 0, 0)));
        calls.add(new Due("connect, kind -1", -1, x -> x.connect(-1, 0, 0)));
        calls.add(new Due("require, test", -1, x -> x.require(tests, 1)));
        calls.add(new Due("require, test -1", -1, x -> x.require(-1, 0)));
        calls.add(new Due("valueOf, term", -1, x -> x.valueOf(terms, 0)));
        calls.add(new Due("valueOf, number", terms > 0 ? -2 : -1, x -> x.valueOf(0, last + 1)));
        calls.add(new Due("holds, test", -1, x -> x.holds(tests, 0)));
        calls.add(new Due("holds, number", tests > 0 ? -2 : -1, x -> x.holds(0, -1)));
        calls.add(new Due("least, term", -1, x -> x.least(terms)));
        calls.add(new Due("greatest, term", -1, x -> x.greatest(terms)));
        calls.add(new Due("follows, test", -1, x -> x.follows(tests)));
        calls.add(new Due("same, terms", -1, x -> x.same(terms, -1)));
        calls.add(new Due("next(the last)", -1, x -> x.next(last)));
        addRefusedTerms(calls, state);
        addRefusedTests(calls, state);
        if (state.constraints == 0) {
            calls.add(new Due("release of none", -1, x -> x.release()));
        }
        if (state.constraints == 10) {
            calls.add(new Due("require(0, 0), full", -2, x -> x.require(0, 0)));
            calls.add(new Due("require(0, 1), full", -2, x -> x.require(0, 1)));
            calls.add(new Due("require of the last, full", -2, x -> x.require(tests - 1, 1)));
        }
        return calls;
    }

    private static void addRefusedTerms(List<Due> calls, State state) {
        int terms = state.terms;
        boolean full = terms == 28;
        int answer = full ? -2 : -3;
        calls.add(new Due("combine, a", answer, x -> x.combine(0, terms, 0)));
        calls.add(new Due("combine, b", answer, x -> x.combine(0, 0, -1)));
        calls.add(new Due("invert, a", answer, x -> x.invert(terms)));
        calls.add(new Due("invert, a = MIN", answer, x -> x.invert(MIN)));
        calls.add(new Due("shift, a", answer, x -> x.shift(terms, 1)));
        if (state.tests > 0) {
            calls.add(new Due("choose, a", answer, x -> x.choose(0, terms, 0)));
            calls.add(new Due("choose, b", answer, x -> x.choose(0, 0, -1)));
        }
        if (full) {
            calls.add(new Due("variable, full", -2, x -> x.variable(1)));
            calls.add(new Due("constant, full", -2, x -> x.constant(9)));
            calls.add(new Due("combine, full", -2, x -> x.combine(5, 0, 27)));
            calls.add(new Due("invert, full", -2, x -> x.invert(27)));
            calls.add(new Due("shift, full", -2, x -> x.shift(27, 1)));
            calls.add(new Due("choose, full", -2, x -> x.choose(0, 27, 0)));
        }
    }

    private static void addRefusedTests(List<Due> calls, State state) {
        int terms = state.terms;
        int tests = state.tests;
        boolean full = tests == 16;
        int answer = full ? -2 : -3;
        calls.add(new Due("compare, a", answer, x -> x.compare(0, terms, 0)));
        calls.add(new Due("compare, b", answer, x -> x.compare(2, 0, -1)));
        calls.add(new Due("connect, s", answer, x -> x.connect(0, tests, 0)));
        calls.add(new Due("connect, t", answer, x -> x.connect(1, 0, -1)));
        if (full) {
            calls.add(new Due("compare, full", -2, x -> x.compare(1, 0, 1)));
            calls.add(new Due("connect, full", -2, x -> x.connect(1, 0, 15)));
        }
    }

    /** Questions of every method, with what each answers where no other has been asked before. */
    private static List<Due> askings(State state) {
        int last = Fixture.lastNumber(state.w);
        List<Due> calls = new ArrayList<>();
        addAsking(calls, state, "width()", x -> x.width());
        addAsking(calls, state, "terms()", x -> x.terms());
        addAsking(calls, state, "tests()", x -> x.tests());
        addAsking(calls, state, "solvable()", x -> x.solvable());
        addAsking(calls, state, "count()", x -> x.count());
        for (int after : new int[] {MIN, -1, 0, 3, last - 1, last, MAX}) {
            addAsking(calls, state, "next(" + after + ")", x -> x.next(after));
        }
        for (int index : new int[] {-1, 0, 1, 4, 15, 27, 28}) {
            addAsking(calls, state, "valueOf(" + index + ", 1)", x -> x.valueOf(index, 1));
            addAsking(calls, state, "valueOf(0, " + index + ")", x -> x.valueOf(0, index));
            addAsking(calls, state, "holds(" + index + ", 1)", x -> x.holds(index, 1));
            addAsking(calls, state, "holds(0, " + index + ")", x -> x.holds(0, index));
            addAsking(calls, state, "least(" + index + ")", x -> x.least(index));
            addAsking(calls, state, "greatest(" + index + ")", x -> x.greatest(index));
            addAsking(calls, state, "follows(" + index + ")", x -> x.follows(index));
            addAsking(calls, state, "same(" + index + ", 0)", x -> x.same(index, 0));
            addAsking(calls, state, "same(0, " + index + ")", x -> x.same(0, index));
        }
        return calls;
    }

    private static void addAsking(List<Due> calls, State state, String text, Call call) {
        calls.add(new Due(text, call.on(state.make()), call));
    }

    /** Everything that can be asked answers the same, be it after one of the calls, or after none. */
    private static void leaveAllAsItWas(State state, List<Due> calls) {
        List<Integer> untouched = everythingAfter(state, List.of());
        if (state.w <= 3) {
            for (Due due : calls) {
                Check.isTrue(due.text + " changes nothing in " + state,
                    everythingAfter(state, List.of(due)).equals(untouched));
            }
        }
        Check.isTrue("all calls together change nothing in " + state,
            everythingAfter(state, calls).equals(untouched));
    }

    private static List<Integer> everythingAfter(State state, List<Due> calls) {
        List<Asking> parts = List.of(EveryMethodTest::askCounts, EveryMethodTest::askValues,
            EveryMethodTest::askMoreValues, EveryMethodTest::askTruths, EveryMethodTest::releaseAll,
            EveryMethodTest::goOnMaking);
        List<Integer> answers = new ArrayList<>();
        // A new object for each part, as no object is good for more than 512 calls.
        for (Asking part : parts) {
            BitBlaster x = state.make();
            // Three times: after two a change that each call turns back would not be seen.
            for (int time = 1; time <= 3; time++) {
                for (Due due : calls) {
                    Check.due(due.text + ", time " + time + ", in " + state, due.call.on(x), due.answer);
                }
            }
            part.ask(x, state.w, answers);
        }
        return answers;
    }

    private static void askCounts(BitBlaster x, int w, List<Integer> answers) {
        answers.add(x.width());
        answers.add(x.terms());
        answers.add(x.tests());
        answers.add(x.solvable());
        answers.add(x.count());
        int after = -1;
        for (int i = 0; i < 20; i++) {
            after = x.next(after);
            answers.add(after);
        }
        for (int term = -1; term <= 28; term++) {
            answers.add(x.least(term));
            answers.add(x.greatest(term));
        }
        for (int test = -1; test <= 16; test++) {
            answers.add(x.follows(test));
        }
    }

    private static void askValues(BitBlaster x, int w, List<Integer> answers) {
        askValuesUnder(x, w, answers, 0);
    }

    private static void askMoreValues(BitBlaster x, int w, List<Integer> answers) {
        askValuesUnder(x, w, answers, 4);
    }

    /** Some numbers all over the range; from 0 and from 4 these are all numbers of width 1. */
    private static void askValuesUnder(BitBlaster x, int w, List<Integer> answers, int from) {
        int last = Fixture.lastNumber(w);
        for (int term = -1; term <= 28; term++) {
            for (int i = from; i < from + 4; i++) {
                answers.add(x.valueOf(term, i * 37 & last));
            }
            answers.add(x.valueOf(term, last));
        }
    }

    private static void askTruths(BitBlaster x, int w, List<Integer> answers) {
        int last = Fixture.lastNumber(w);
        for (int test = -1; test <= 16; test++) {
            for (int i = 0; i < 8; i++) {
                answers.add(x.holds(test, i * 37 & last));
            }
            answers.add(x.holds(test, last));
        }
        for (int term = 0; term <= 28; term++) {
            answers.add(x.same(term, term * 5 % 28));
        }
    }

    private static void releaseAll(BitBlaster x, int w, List<Integer> answers) {
        for (int i = 0; i < 11; i++) {
            answers.add(x.release());
            answers.add(x.count());
            answers.add(x.next(-1));
        }
    }

    private static void goOnMaking(BitBlaster x, int w, List<Integer> answers) {
        for (int i = 0; i < 29; i++) {
            answers.add(anyTerm(x, i));
            answers.add(x.valueOf(x.terms() - 1, 5));
        }
        for (int i = 0; i < 17; i++) {
            answers.add(anyTest(x, i));
            answers.add(x.holds(x.tests() - 1, 5));
        }
        for (int i = 0; i < 11; i++) {
            answers.add(x.require(i, i % 2));
            answers.add(x.count());
        }
    }
}
