/** Long runs of mixed calls, each answer held against the model. The runs are the same each time. */
public final class ModelTest {
    private static final int RUNS = 3000;
    private static final int CALLS = 512;
    private static final int[] EXTREMES = {
        Maps.MIN, Maps.MIN + 1, -1, 0, 1, Maps.MAX - 1, Maps.MAX
    };

    private long seed;
    private final int spread;
    private final int addingWeight;
    private final RedBlackMap map = new RedBlackMap();
    private final Model model = new Model();

    private ModelTest(int run) {
        seed = run * 7919L + 17;
        spread = run % 3 == 0 ? 20 : run % 3 == 1 ? 70 : 300;
        addingWeight = run % 4;
    }

    public static void main(String[] args) {
        // After a wrong answer the runs that follow would only bury it.
        for (int run = 0; run < RUNS && Check.allRight(); run++) {
            ModelTest test = new ModelTest(run);
            for (int number = 1; number <= CALLS; number++) {
                Call call = test.anyCall();
                Check.due("run " + run + ", call " + number + ": " + call,
                        call.on(test.map), call.on(test.model));
            }
        }
        for (int run = 0; run < 12; run++) {
            callsBeyondTheLastPromisedOne(new ModelTest(run));
        }
        Check.end();
    }

    /** What these answer is free, but LANGUAGE.md lets no call throw or fail to end. */
    private static void callsBeyondTheLastPromisedOne(ModelTest test) {
        for (int number = 1; number <= 40 * CALLS; number++) {
            Call call = test.anyCall();
            call.on(test.map);
            call.on(test.model);
        }
    }

    private int below(int bound) {
        seed = seed * 6364136223846793005L + 1442695040888963407L;
        return (int) ((seed >>> 33) % bound);
    }

    private int anyKey() {
        return below(12) == 0 ? EXTREMES[below(EXTREMES.length)] : below(spread) - spread / 3;
    }

    private int anyValue() {
        return below(4) == 0 ? EXTREMES[below(EXTREMES.length)] : below(2000) - 1000;
    }

    /** Near the places that there are, and now and then anywhere. */
    private int anyPlace() {
        return below(10) == 0 ? anyKey() : below(model.entries.size() + 3) - 1;
    }

    private Call anyCall() {
        int kind = below(16 + 6 * addingWeight);
        int key = anyKey();
        return switch (kind) {
            case 0, 1 -> new Call("remove", key, 0);
            case 2 -> new Call("get", key, 0);
            case 3 -> new Call("place", key, 0);
            case 4 -> new Call("count", key, anyKey());
            case 5 -> new Call("sum", key, anyKey());
            case 6 -> new Call("removeAll", key, below(5) == 0 ? anyKey() : key + below(5));
            case 7 -> new Call("seek", key, 0);
            case 8 -> new Call("jump", anyPlace(), 0);
            case 9 -> new Call("next", 0, 0);
            case 10 -> new Call("back", 0, 0);
            case 11 -> new Call("key", 0, 0);
            case 12 -> new Call("set", anyValue(), 0);
            default -> new Call("put", key, anyValue());
        };
    }
}
