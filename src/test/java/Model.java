import java.util.ArrayList;
import java.util.List;

/**
 * A second BitBlaster, written from the document in another way: it keeps what each term and test
 * is made of, and works them out bit by bit, in the order in which they were made, for each
 * assignment it is asked about.
 */
final class Model {
    private static final int KINDS_OF_COMBINE = 6;

    /** One thing made: a term or a test, and what it is made of. */
    private record Made(String what, int kind, int a, int b, int test) {
        boolean isTest() {
            return what.equals("compare") || what.equals("connect");
        }
    }

    /** The words of the terms and the truths of the tests under one assignment. */
    private static final class World {
        final List<Integer> words = new ArrayList<>();
        final List<Boolean> truths = new ArrayList<>();
    }

    private record Constraint(int test, boolean sign) {
    }

    private final int width;
    private final List<Made> made = new ArrayList<>();
    private final List<Constraint> constraints = new ArrayList<>();
    private final List<World> worlds = new ArrayList<>();

    Model(int width) {
        this.width = Math.max(1, Math.min(4, width));
        for (int number = 0; number < power(3 * this.width); number++) {
            worlds.add(new World());
        }
    }

    private static int power(int exponent) {
        int value = 1;
        for (int i = 0; i < exponent; i++) {
            value *= 2;
        }
        return value;
    }

    int width() {
        return width;
    }

    int terms() {
        int count = 0;
        for (Made one : made) {
            count += one.isTest() ? 0 : 1;
        }
        return count;
    }

    int tests() {
        return made.size() - terms();
    }

    int constraints() {
        return constraints.size();
    }

    private boolean goodTerm(int term) {
        return 0 <= term && term < terms();
    }

    private boolean goodTest(int test) {
        return 0 <= test && test < tests();
    }

    private int makeTerm(boolean goodOperands, Made term) {
        if (terms() >= 28) {
            return -2;
        }
        if (!goodOperands) {
            return -3;
        }
        made.add(term);
        return terms() - 1;
    }

    private int makeTest(boolean goodOperands, Made test) {
        if (tests() >= 16) {
            return -2;
        }
        if (!goodOperands) {
            return -3;
        }
        made.add(test);
        return tests() - 1;
    }

    int variable(int v) {
        boolean bad = v != 0 && v != 1 && v != 2;
        return bad ? -1 : makeTerm(true, new Made("variable", v, 0, 0, 0));
    }

    int constant(int value) {
        return makeTerm(true, new Made("constant", value, 0, 0, 0));
    }

    int combine(int kind, int a, int b) {
        boolean bad = kind < 0 || kind >= KINDS_OF_COMBINE;
        return bad ? -1 : makeTerm(goodTerm(a) && goodTerm(b), new Made("combine", kind, a, b, 0));
    }

    int invert(int a) {
        return makeTerm(goodTerm(a), new Made("invert", 0, a, 0, 0));
    }

    int shift(int a, int by) {
        boolean bad = by < -4 || by > 4;
        return bad ? -1 : makeTerm(goodTerm(a), new Made("shift", by, a, 0, 0));
    }

    int choose(int test, int a, int b) {
        boolean bad = !goodTest(test);
        return bad ? -1 : makeTerm(goodTerm(a) && goodTerm(b), new Made("choose", 0, a, b, test));
    }

    int compare(int kind, int a, int b) {
        boolean bad = kind < 0 || kind > 2;
        return bad ? -1 : makeTest(goodTerm(a) && goodTerm(b), new Made("compare", kind, a, b, 0));
    }

    int connect(int kind, int s, int t) {
        boolean bad = kind < 0 || kind > 2;
        return bad ? -1 : makeTest(goodTest(s) && goodTest(t), new Made("connect", kind, s, t, 0));
    }

    int require(int test, int sign) {
        if (!goodTest(test)) {
            return -1;
        }
        if (constraints.size() >= 10) {
            return -2;
        }
        constraints.add(new Constraint(test, sign != 0));
        return constraints.size();
    }

    int release() {
        if (constraints.isEmpty()) {
            return -1;
        }
        constraints.remove(constraints.size() - 1);
        return constraints.size();
    }

    int valueOf(int term, int number) {
        if (!goodTerm(term)) {
            return -1;
        }
        return number < 0 || number >= worlds.size() ? -2 : world(number).words.get(term);
    }

    int holds(int test, int number) {
        if (!goodTest(test)) {
            return -1;
        }
        if (number < 0 || number >= worlds.size()) {
            return -2;
        }
        return world(number).truths.get(test) ? 1 : 0;
    }

    int solvable() {
        return solutions().isEmpty() ? 0 : 1;
    }

    int next(int after) {
        return solutions().stream().filter(number -> number > after).findFirst().orElse(-1);
    }

    int count() {
        return solutions().size();
    }

    int least(int term) {
        if (!goodTerm(term)) {
            return -1;
        }
        return solutions().stream().mapToInt(n -> world(n).words.get(term)).min().orElse(-2);
    }

    int greatest(int term) {
        if (!goodTerm(term)) {
            return -1;
        }
        return solutions().stream().mapToInt(n -> world(n).words.get(term)).max().orElse(-2);
    }

    int follows(int test) {
        if (!goodTest(test)) {
            return -1;
        }
        List<Integer> solutions = solutions();
        if (solutions.stream().allMatch(n -> world(n).truths.get(test))) {
            return 1;
        }
        return solutions.stream().noneMatch(n -> world(n).truths.get(test)) ? 0 : 2;
    }

    int same(int a, int b) {
        if (!goodTerm(a) || !goodTerm(b)) {
            return -1;
        }
        for (int number = 0; number < worlds.size(); number++) {
            World world = world(number);
            if (!world.words.get(a).equals(world.words.get(b))) {
                return 0;
            }
        }
        return 1;
    }

    private List<Integer> solutions() {
        List<Integer> solutions = new ArrayList<>();
        for (int number = 0; number < worlds.size(); number++) {
            World world = world(number);
            if (constraints.stream().allMatch(c -> world.truths.get(c.test()) == c.sign())) {
                solutions.add(number);
            }
        }
        return solutions;
    }

    /** The world of an assignment, with what was made since it was last looked at added. */
    private World world(int number) {
        World world = worlds.get(number);
        for (int i = world.words.size() + world.truths.size(); i < made.size(); i++) {
            Made one = made.get(i);
            if (one.isTest()) {
                world.truths.add(truth(one, world));
            } else {
                world.words.add(value(bits(one, world, number)));
            }
        }
        return world;
    }

    /** The bits of a term, the lowest first. */
    private boolean[] bits(Made term, World world, int number) {
        switch (term.what()) {
            case "variable":
                int size = power(width);
                int[] values = {number / size / size, number / size % size, number % size};
                return bitsOf(values[term.kind()]);
            case "constant":
                return bitsOf(Math.floorMod(term.kind(), power(width)));
            case "combine":
                return combined(term.kind(), bitsOf(world.words.get(term.a())),
                    bitsOf(world.words.get(term.b())));
            case "invert":
                return inverted(bitsOf(world.words.get(term.a())));
            case "shift":
                return shifted(bitsOf(world.words.get(term.a())), term.kind());
            default:
                return bitsOf(world.words.get(world.truths.get(term.test()) ? term.a() : term.b()));
        }
    }

    private boolean truth(Made test, World world) {
        if (test.what().equals("connect")) {
            int both = (world.truths.get(test.a()) ? 1 : 0) + (world.truths.get(test.b()) ? 1 : 0);
            return test.kind() == 0 ? both == 2 : test.kind() == 1 ? both > 0 : both == 1;
        }
        boolean[] x = bitsOf(world.words.get(test.a()));
        boolean[] y = bitsOf(world.words.get(test.b()));
        if (test.kind() == 2) {
            // Turning the sign bit over keeps the order of signed words and makes them plain ones.
            x[width - 1] = !x[width - 1];
            y[width - 1] = !y[width - 1];
        }
        for (int i = width - 1; i >= 0; i--) {
            if (x[i] != y[i]) {
                return test.kind() != 0 && y[i];
            }
        }
        return test.kind() == 0;
    }

    private boolean[] bitsOf(int word) {
        boolean[] bits = new boolean[width];
        for (int i = 0; i < width; i++) {
            bits[i] = word / power(i) % 2 == 1;
        }
        return bits;
    }

    private int value(boolean[] bits) {
        int word = 0;
        for (int i = 0; i < width; i++) {
            word += bits[i] ? power(i) : 0;
        }
        return word;
    }

    private boolean[] combined(int kind, boolean[] x, boolean[] y) {
        if (kind == BitBlaster.ADD) {
            return sum(x, y, false);
        }
        if (kind == BitBlaster.SUB) {
            return sum(x, inverted(y), true);
        }
        boolean[] bits = new boolean[width];
        for (int i = 0; i < width; i++) {
            if (kind == BitBlaster.MUL) {
                bits = y[i] ? sum(bits, shifted(x, i), false) : bits;
            } else if (kind == BitBlaster.AND) {
                bits[i] = x[i] && y[i];
            } else {
                bits[i] = kind == BitBlaster.OR ? x[i] || y[i] : x[i] != y[i];
            }
        }
        return bits;
    }

    private boolean[] sum(boolean[] x, boolean[] y, boolean carryIn) {
        boolean[] bits = new boolean[width];
        boolean carry = carryIn;
        for (int i = 0; i < width; i++) {
            bits[i] = x[i] != y[i] != carry;
            carry = x[i] && y[i] || carry && (x[i] || y[i]);
        }
        return bits;
    }

    private boolean[] inverted(boolean[] x) {
        boolean[] bits = new boolean[width];
        for (int i = 0; i < width; i++) {
            bits[i] = !x[i];
        }
        return bits;
    }

    private boolean[] shifted(boolean[] x, int by) {
        boolean[] bits = new boolean[width];
        for (int i = 0; i < width; i++) {
            int from = i - by;
            bits[i] = from >= 0 && from < width && x[from];
        }
        return bits;
    }
}
