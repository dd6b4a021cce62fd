import java.util.Map;
import java.util.TreeMap;

/**
 * Long runs of mixed calls, each answer held against a plain model: a TreeMap and the key of the
 * entry at the cursor. The runs are the same each time.
 */
public final class ModelTest {
    private static final int RUNS = 3000;
    private static final int CALLS = 512;
    private static final int CAPACITY = 48;
    private static final int[] EXTREMES = {
        Integer.MIN_VALUE, Integer.MIN_VALUE + 1, -1, 0, 1, Integer.MAX_VALUE - 1, Integer.MAX_VALUE
    };

    private long seed;
    private final int spread;
    private final int addingWeight;
    private final RedBlackMap map = new RedBlackMap();
    private final TreeMap<Integer, Integer> entries = new TreeMap<>();
    private boolean atEnd = true;
    private int cursorKey;

    private ModelTest(int run) {
        seed = run * 7919L + 17;
        spread = run % 3 == 0 ? 20 : run % 3 == 1 ? 70 : 300;
        addingWeight = run % 4;
    }

    public static void main(String[] args) {
        // After a wrong answer the runs that follow would only bury it.
        for (int run = 0; run < RUNS && Check.allRight(); run++) {
            ModelTest test = new ModelTest(run);
            for (int call = 1; call <= CALLS; call++) {
                test.step("run " + run + ", call " + call + ": ");
            }
        }
        callsBeyondTheLastPromisedOne();
        Check.end();
    }

    /** What these answer is free, but LANGUAGE.md lets no call throw. */
    private static void callsBeyondTheLastPromisedOne() {
        ModelTest test = new ModelTest(1);
        for (int call = 1; call <= 20 * CALLS; call++) {
            int a = test.anyKey();
            int b = test.anyKey();
            test.map.put(a, b);
            test.map.put(b, a);
            test.map.jump(test.below(60) - 5);
            test.map.next();
            test.map.back();
            test.map.set(a);
            test.map.removeAll(a, a + test.below(9));
            test.map.seek(b);
            test.map.remove(test.anyKey());
        }
    }

    private int below(int bound) {
        seed = seed * 6364136223846793005L + 1442695040888963407L;
        return (int) ((seed >>> 33) % bound);
    }

    private int anyKey() {
        return below(12) == 0 ? EXTREMES[below(EXTREMES.length)] : below(spread) - spread / 3;
    }

    private int anyValue() {
        return below(4) == 0 ? EXTREMES[below(EXTREMES.length)] : below(2000) - 1000;
    }

    private void step(String at) {
        int kind = below(16 + 6 * addingWeight);
        int a = anyKey();
        int b = anyKey();
        switch (kind) {
            case 0, 1 -> Check.due(at + "remove(" + a + ")", map.remove(a), remove(a));
            case 2 -> Check.due(at + "get(" + a + ")", map.get(a), entries.getOrDefault(a, 0));
            case 3 -> Check.due(at + "place(" + a + ")", map.place(a),
                    entries.containsKey(a) ? entries.headMap(a).size() : -1);
            case 4 -> Check.due(at + "count(" + a + ", " + b + ")", map.count(a, b), count(a, b));
            case 5 -> Check.due(at + "sum(" + a + ", " + b + ")", map.sum(a, b), sum(a, b));
            case 6 -> {
                int high = below(5) == 0 ? b : a + below(5);
                Check.due(at + "removeAll(" + a + ", " + high + ")",
                        map.removeAll(a, high), removeAll(a, high));
            }
            case 7 -> Check.due(at + "seek(" + a + ")", map.seek(a), seek(a));
            case 8 -> {
                int place = below(10) == 0 ? a : below(entries.size() + 3) - 1;
                Check.due(at + "jump(" + place + ")", map.jump(place), jump(place));
            }
            case 9 -> Check.due(at + "next()", map.next(), next());
            case 10 -> Check.due(at + "back()", map.back(), back());
            case 11 -> Check.due(at + "key()", map.key(), atEnd ? 0 : cursorKey);
            case 12 -> {
                int value = anyValue();
                Check.due(at + "set(" + value + ")", map.set(value), set(value));
            }
            default -> {
                int value = anyValue();
                Check.due(at + "put(" + a + ", " + value + ")", map.put(a, value), put(a, value));
            }
        }
    }

    private int put(int key, int value) {
        if (entries.containsKey(key)) {
            entries.put(key, value);
            return 0;
        }
        if (entries.size() == CAPACITY) {
            return -1;
        }
        entries.put(key, value);
        return 1;
    }

    private int remove(int key) {
        if (!entries.containsKey(key)) {
            return 0;
        }
        entries.remove(key);
        if (!atEnd && cursorKey == key) {
            moveTo(entries.higherKey(key));
        }
        return 1;
    }

    private int removeAll(int low, int high) {
        int removed = 0;
        for (int key : entries.keySet().toArray(new Integer[0])) {
            if (low <= key && key <= high) {
                removed += remove(key);
            }
        }
        return removed;
    }

    private int count(int low, int high) {
        int count = 0;
        for (int key : entries.keySet()) {
            count += low <= key && key <= high ? 1 : 0;
        }
        return count;
    }

    private long sum(int low, int high) {
        long sum = 0;
        for (Map.Entry<Integer, Integer> entry : entries.entrySet()) {
            sum += low <= entry.getKey() && entry.getKey() <= high ? entry.getValue() : 0;
        }
        return sum;
    }

    private int seek(int key) {
        moveTo(entries.ceilingKey(key));
        return entries.headMap(key).size();
    }

    private int jump(int place) {
        Integer found = null;
        int at = 0;
        for (Integer key : entries.keySet()) {
            if (at == place) {
                found = key;
            }
            at++;
        }
        moveTo(found);
        return atEnd ? 0 : 1;
    }

    private int next() {
        if (atEnd) {
            return -1;
        }
        moveTo(entries.higherKey(cursorKey));
        return atEnd ? 0 : 1;
    }

    private int back() {
        Integer before = !atEnd ? entries.lowerKey(cursorKey)
                : entries.isEmpty() ? null : entries.lastKey();
        if (before == null) {
            return -1;
        }
        moveTo(before);
        return 1;
    }

    private int set(int value) {
        return atEnd ? 0 : entries.put(cursorKey, value);
    }

    private void moveTo(Integer key) {
        atEnd = key == null;
        cursorKey = atEnd ? 0 : key;
    }
}
