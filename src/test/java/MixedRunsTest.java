import java.util.Random;

/**
 * THE ROW, the rings and what is STEPPED leave one another alone: an object with calls of all kinds,
 * mixed, answers each as an object does that has calls of that kind only.
 *
 * <p>Questions, answered or refused, leave everything as it is: they are asked of the mixed object
 * alone once more, and what comes behind them must be as without them.
 */
public final class MixedRunsTest {
    private static final int RUNS = 300;
    /** An object has at most 512 calls, and a question is asked twice of the mixed one. */
    private static final int CALLS = 250;
    private static final String[] NAMES = {
        "row", "weight", "sum", "chance", "current", "taken", "flow", "extreme",
        "queue", "ways",
        "step", "set", "seed", "go", "together", "at", "told"};
    private static final int FIRST_OF_RINGS = 8;
    private static final int FIRST_OF_STEPPED = 10;
    private static final Check CHECK = new Check();

    public static void main(String[] args) {
        Random random = new Random(20);
        for (int run = 0; run < RUNS; run++) {
            mixedRun(run, random);
        }
        CHECK.end();
    }

    private static void mixedRun(int run, Random random) {
        OnePlaceEach mixed = new OnePlaceEach();
        OnePlaceEach[] apart = {new OnePlaceEach(), new OnePlaceEach(), new OnePlaceEach()};
        for (int i = 0; i < CALLS; i++) {
            int call = random.nextInt(NAMES.length);
            int[] numbers = numbersFor(call, random);
            long want = ask(apart[kindOf(call)], call, numbers);
            String name = "run " + run + ", call " + i + ": " + NAMES[call] + java.util.Arrays.toString(numbers);
            CHECK.due(name, want, ask(mixed, call, numbers));
            if (isQuestion(call) || want == OnePlaceEach.BAD || want == OnePlaceEach.NO) {
                CHECK.due(name + " again", want, ask(mixed, call, numbers));
            }
        }
    }

    private static int kindOf(int call) {
        if (call < FIRST_OF_RINGS) {
            return 0;
        }
        return call < FIRST_OF_STEPPED ? 1 : 2;
    }

    private static boolean isQuestion(int call) {
        return switch (NAMES[call]) {
            case "row", "step", "set", "seed", "go", "together" -> false;
            default -> true;
        };
    }

    private static int[] numbersFor(int call, Random random) {
        return switch (NAMES[call]) {
            case "row" -> numbers(1 + random.nextInt(9), 1 + random.nextInt(10), 1 + random.nextInt(10));
            case "weight" -> numbers(random.nextInt(random.nextBoolean() ? 8 : 257), 0, 0);
            case "sum" -> numbers(random.nextInt(11) - 1, 0, 0);
            case "chance", "taken", "flow" ->
                numbers(random.nextInt(random.nextBoolean() ? 8 : 257), random.nextInt(4) - 1, 0);
            case "current", "extreme" -> numbers(random.nextInt(4) - 1, 0, 0);
            case "queue" -> numbers(3 + random.nextInt(7), random.nextInt(32), random.nextInt(256));
            case "ways" -> numbers(2 + random.nextInt(8), random.nextInt(800), 0);
            case "step" -> numbers(1 + random.nextInt(31), random.nextInt(2), 0);
            case "set" -> numbers(random.nextInt(12) - 1, random.nextInt(10) == 0 ? 3 : random.nextInt(3), 0);
            case "seed" -> numbers(random.nextInt(), 0, 0);
            case "go" -> numbers(random.nextInt(400), 0, 0);
            case "together" -> numbers(random.nextInt(20), 0, 0);
            case "at" -> numbers(random.nextInt(33) - 1, 0, 0);
            default -> numbers(random.nextInt(10) - 1, 0, 0);
        };
    }

    private static int[] numbers(int... all) {
        return all;
    }

    private static long ask(OnePlaceEach object, int call, int[] n) {
        return switch (NAMES[call]) {
            case "row" -> object.row(n[0], n[1], n[2]);
            case "weight" -> object.weight(n[0]);
            case "sum" -> object.sum(n[0]);
            case "chance" -> object.chance(n[0], n[1]);
            case "current" -> object.current(n[0]);
            case "taken" -> object.taken(n[0], n[1]);
            case "flow" -> object.flow(n[0], n[1]);
            case "extreme" -> object.extreme(n[0]);
            case "queue" -> object.queue(n[0], n[1], n[2]);
            case "ways" -> object.ways(n[0], n[1]);
            case "step" -> object.step(n[0], n[1] == 1);
            case "set" -> object.set(n[0], n[1]);
            case "seed" -> object.seed(n[0]);
            case "go" -> object.go(n[0]);
            case "together" -> object.together(n[0]);
            case "at" -> object.at(n[0]);
            default -> object.told(n[0]);
        };
    }
}
