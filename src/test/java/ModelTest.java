import java.lang.reflect.Method;
import java.util.Set;
import java.util.TreeSet;

/** Long mixed runs of calls, each answered by BitBlaster as by the model. */
public final class ModelTest {
    /** The document promises nothing after these. */
    private static final int CALLS = 512;
    private static final int RUNS = 120;
    private static final int[] FAR = {Integer.MIN_VALUE, -5, -1, 28, 4096, Integer.MAX_VALUE};

    private static final String[] MAKING = {
        "variable", "constant", "combine", "invert", "shift", "choose", "compare", "connect"};
    private static final String[] CONSTRAINING = {"require", "release"};
    private static final String[] ASKING = {
        "width", "terms", "tests", "valueOf", "holds", "solvable", "next", "count", "least",
        "greatest", "follows", "same"};

    /** The kinds of answers that the runs must have met, by method, so that they can't go empty. */
    private static final String[][] TO_BE_MET = {
        {"variable", "-1", "-2", "+"}, {"constant", "-2", "+"},
        {"combine", "-1", "-2", "-3", "+"}, {"invert", "-2", "-3", "+"},
        {"shift", "-1", "-2", "-3", "+"}, {"choose", "-1", "-2", "-3", "+"},
        {"compare", "-1", "-2", "-3", "+"}, {"connect", "-1", "-2", "-3", "+"},
        {"require", "-1", "-2", "+"}, {"release", "-1", "0", "+"},
        {"valueOf", "-1", "-2", "0", "+"}, {"holds", "-1", "-2", "0", "+"},
        {"solvable", "0", "+"}, {"next", "-1", "0", "+"}, {"count", "0", "+"},
        {"least", "-1", "-2", "0", "+"}, {"greatest", "-1", "-2", "0", "+"},
        {"follows", "-1", "0", "1", "2"}, {"same", "-1", "0", "+"}};

    private final long firstState;
    private long state;
    private final Set<String> met;

    private ModelTest(int run, Set<String> met) {
        this.firstState = run * 7919L + 17;
        this.state = firstState;
        this.met = met;
    }

    public static void main(String[] args) throws ReflectiveOperationException {
        Set<String> met = new TreeSet<>();
        for (int run = 0; run < RUNS; run++) {
            new ModelTest(run, met).run(run % 4 + 1);
        }
        for (String[] method : TO_BE_MET) {
            for (int i = 1; i < method.length; i++) {
                String answer = method[0] + " " + method[i];
                Check.isTrue("the runs met the answer " + answer, met.contains(answer));
            }
        }
        Check.end();
    }

    private void run(int width) throws ReflectiveOperationException {
        BitBlaster real = new BitBlaster(width);
        Model model = new Model(width);
        // Some runs fill up early, others grow slowly and are asked much on the way.
        int making = 5 + below(40);
        for (int call = 1; call <= CALLS; call++) {
            int dice = below(100);
            String[] group = dice < making ? MAKING : dice < making + 12 ? CONSTRAINING : ASKING;
            String method = group[below(group.length)];
            if (group == CONSTRAINING) {
                method = constraining(model);
            }
            int[] p = parameters(method, model);
            int want = ask(model, method, p);
            int got = ask(real, method, p);
            String text = method + "(" + p[0] + ", " + p[1] + ", " + p[2] + ")";
            Check.due("run " + firstState + ", call " + call + ", " + text, got, want);
            boolean exact = want <= 0 || method.equals("follows");
            met.add(method + " " + (exact ? "" + want : "+"));
        }
    }

    /** Many constraints leave no solutions, so few is the rule, but each run also fills the list. */
    private String constraining(Model model) {
        int chance = below(12) < 3 ? 80 : model.constraints() > 2 ? 40 : 60;
        return below(100) < chance ? "require" : "release";
    }

    private int below(int bound) {
        state = state * 6364136223846793005L + 1442695040888963407L;
        return (int) ((state >>> 33) % bound);
    }

    /** Most often a number in 0 .. count - 1, now and then one just outside or far from it. */
    private int index(int count) {
        int dice = below(40);
        if (dice == 0) {
            return FAR[below(FAR.length)];
        }
        if (dice == 1 || count == 0) {
            return below(2) == 0 ? -1 : count;
        }
        return below(count);
    }

    private int[] parameters(String method, Model model) {
        int terms = model.terms();
        int tests = model.tests();
        int assignments = 1 << 3 * model.width();
        switch (method) {
            case "variable":
                return new int[] {index(3), 0, 0};
            case "constant":
                return new int[] {below(10) == 0 ? FAR[below(FAR.length)] : below(50) - 20, 0, 0};
            case "combine":
                return new int[] {index(6), index(terms), index(terms)};
            case "invert":
            case "least":
            case "greatest":
                return new int[] {index(terms), 0, 0};
            case "shift":
                return new int[] {index(terms), below(20) == 0 ? index(9) : below(11) - 5, 0};
            case "choose":
                return new int[] {index(tests), index(terms), index(terms)};
            case "compare":
                return new int[] {index(3), index(terms), index(terms)};
            case "connect":
                return new int[] {index(3), index(tests), index(tests)};
            case "require":
                return new int[] {index(tests), below(2) * (below(9) - 4), 0};
            case "valueOf":
                return new int[] {index(terms), index(assignments), 0};
            case "holds":
                return new int[] {index(tests), index(assignments), 0};
            case "next":
                return new int[] {index(assignments), 0, 0};
            case "follows":
                return new int[] {index(tests), 0, 0};
            case "same":
                return new int[] {index(terms), index(terms), 0};
            default:
                return new int[] {0, 0, 0};
        }
    }

    /** Reflection keeps one list of the methods for both, in place of two that could drift apart. */
    private static int ask(Object target, String name, int[] p) throws ReflectiveOperationException {
        for (Method method : target.getClass().getDeclaredMethods()) {
            if (method.getName().equals(name)) {
                Object[] arguments = new Object[method.getParameterCount()];
                for (int i = 0; i < arguments.length; i++) {
                    arguments[i] = p[i];
                }
                return (Integer) method.invoke(target, arguments);
            }
        }
        throw new NoSuchMethodException(name);
    }
}
