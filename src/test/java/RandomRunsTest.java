import java.lang.reflect.InvocationTargetException;
import java.lang.reflect.Method;
import java.util.Arrays;
import java.util.Set;

/** Long runs of calls, the same in each test: the class and the model give the same answers and exceptions. */
final class RandomRunsTest {
    private static final int CALLS = 40;
    private static final int RUNS = 4000;
    private static final int LONGEST_RUN = 512;
    private static final int[] WILD = {-1, 4, 5, 8, 100, 1001, 65536, Integer.MIN_VALUE, Integer.MAX_VALUE};

    private static final String[] NAMES = {"link", "shop", "stock", "scatter", "join", "quest", "stage", "endow", "seed",
        "go", "say", "shout", "take", "drop", "give", "pay", "buy", "sell", "attack", "rest",
        "turn", "readyAt", "roomOf", "coinsOf", "healthOf", "goodsOf", "heard", "stageOf", "exit", "distance",
        "onFloor", "stockOf", "tillOf", "purse", "allCoins", "allGoods", "calls", "roomAfter", "coinsAfter", "turnAfter"};
    // How many values from 0 on, or from 1 where isFromOne() says so, each argument has.
    private static final int[][] RANGES = {{8, 4, 8}, {8, 60}, {8, 5, 21, 12}, {8, 5, 9}, {8, 201, 7}, {101},
        {3, 4, 8, 10}, {90}, {65536},
        {4}, {10}, {10}, {5}, {5}, {4, 5}, {4, 30}, {5}, {5}, {4}, {},
        {}, {4}, {4}, {4}, {4}, {4, 5}, {4, 6}, {4, 3}, {8, 4}, {8, 8},
        {8, 5}, {8, 5}, {8}, {}, {}, {5}, {}, {512, 4}, {512, 4}, {512}};

    private static final Set<String> NAMED = Set.of("throws java.lang.IndexOutOfBoundsException",
        "throws java.lang.IllegalArgumentException", "throws java.lang.IllegalStateException");

    private static long state;
    private static final int[] answered = new int[CALLS];
    private static final int[] refused = new int[CALLS];
    private static Method[] ofClass;
    private static Method[] ofModel;

    public static void main(String[] args) throws NoSuchMethodException {
        ofClass = methodsOf(MudCouncil.class);
        ofModel = methodsOf(Model.class);
        for (int run = 0; run < RUNS; run++) {
            state = 7919L * run + 1;
            Check.due("run " + run, firstDifference(), "no difference");
        }
        for (int call = 0; call < CALLS; call++) {
            Check.due(NAMES[call] + " was answered often", answered[call] > 1000, true);
            boolean canThrow = RANGES[call].length > 0 || NAMES[call].equals("rest");
            Check.due(NAMES[call] + " was refused", refused[call] > 10, canThrow);
        }
        beyondTheLongestRun();
        Check.finish("RandomRunsTest");
    }

    // Wild arguments and late calls: whatever is answered, the machine itself throws nothing.
    private static void beyondTheLongestRun() {
        state = 5;
        MudCouncil x = new MudCouncil();
        for (int i = 0; i < 20000; i++) {
            int call = pick(CALLS);
            int[] a = arguments(call, 8, 512);
            String got = outcome(x, ofClass[call], a);
            Check.due("late " + tell(call, a) + " " + got, !got.startsWith("throws") || NAMED.contains(got), true);
        }
    }

    private static String firstDifference() {
        MudCouncil x = new MudCouncil();
        Model model = new Model();
        // Few rooms bring the players together, and a short making leaves more calls for acts.
        int rooms = 1 + pick(8);
        int making = 20 + pick(60);
        for (int i = 0; i < LONGEST_RUN; i++) {
            int call = chooseCall(i, making);
            int[] a = arguments(call, rooms, model.calls() + 1);
            String due = outcome(model, ofModel[call], a);
            String got = outcome(x, ofClass[call], a);
            count(call, due);
            if (!got.equals(due)) {
                return "call " + i + ", " + tell(call, a) + ": " + got + " for " + due;
            }
        }
        return "no difference";
    }

    private static void count(int call, String outcome) {
        if (outcome.startsWith("throws")) {
            refused[call]++;
        } else {
            answered[call]++;
        }
    }

    private static int chooseCall(int i, int making) {
        if (i < making) {
            return pick(10) < 8 ? pick(9) : pick(CALLS);
        }
        int dice = pick(100);
        return dice < 65 ? 9 + pick(11) : dice < 68 ? pick(9) : 20 + pick(20);
    }

    private static int[] arguments(int call, int rooms, int calls) {
        int[] arguments = new int[RANGES[call].length];
        for (int i = 0; i < arguments.length; i++) {
            int range = RANGES[call][i];
            range = range == 8 ? rooms : range == 512 ? calls : range;
            arguments[i] = pick(60) == 0 ? WILD[pick(WILD.length)] : pick(range) + (isFromOne(call, i) ? 1 : 0);
        }
        return arguments;
    }

    private static boolean isFromOne(int call, int argument) {
        String name = NAMES[call];
        return name.equals("scatter") && argument == 2 || name.equals("pay") && argument == 1 || name.equals("endow");
    }

    private static String tell(int call, int[] arguments) {
        return NAMES[call] + Arrays.toString(arguments);
    }

    private static int pick(int bound) {
        state = state * 6364136223846793005L + 1442695040888963407L;
        return (int) ((state >>> 33) % bound);
    }

    private static String outcome(Object target, Method method, int[] arguments) {
        try {
            Object answer = method.invoke(target, Arrays.stream(arguments).boxed().toArray());
            return answer == null ? "0" : answer.toString();
        } catch (InvocationTargetException e) {
            return "throws " + e.getCause().getClass().getName();
        } catch (IllegalAccessException e) {
            throw new AssertionError(e);
        }
    }

    private static Method[] methodsOf(Class<?> owner) throws NoSuchMethodException {
        Method[] methods = new Method[CALLS];
        for (int call = 0; call < CALLS; call++) {
            Class<?>[] parameters = new Class<?>[RANGES[call].length];
            Arrays.fill(parameters, int.class);
            methods[call] = owner.getDeclaredMethod(NAMES[call], parameters);
        }
        return methods;
    }
}
