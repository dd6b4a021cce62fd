import java.util.ArrayList;
import java.util.List;

/**
 * Each method, with arguments at and around the keys, with each set of five keys held and the cursor
 * at each place, and in chosen states of 45 to 48 entries: its answer and the whole state behind it
 * are held against the model.
 */
public final class StatesTest {
    private static final int MIN = Maps.MIN;
    private static final int MAX = Maps.MAX;

    public static void main(String[] args) {
        smallStates();
        fullAndNearlyFullStates();
        Check.end();
    }

    /** Each set of the five keys, with the cursor at each place and at the end. */
    private static void smallStates() {
        int[] keys = {MIN, -7, 0, 7, MAX};
        List<Call> calls = callsWith(
                new int[] {MIN, MIN + 1, -8, -7, -6, -1, 0, 1, 6, 7, 8, MAX - 1, MAX},
                new int[] {MIN, -1, 0, 1, 2, 3, 4, 5, 6, 47, 48, MAX});
        for (int held = 0; held < 1 << keys.length; held++) {
            List<Integer> start = heldOf(keys, held);
            for (int cursor = 0; cursor <= start.size(); cursor++) {
                dueForEach(calls, start, cursor);
            }
        }
    }

    /** Beside 45 entries that are always there, each set of three keys: before, among, behind. */
    private static void fullAndNearlyFullStates() {
        int[] keys = {-5, 225, 500};
        List<Call> calls = callsWith(
                new int[] {MIN, -5, 10, 220, 225, 230, 450, 500, MAX},
                new int[] {-1, 0, 22, 44, 45, 46, 47, 48, 49});
        for (int held = 0; held < 1 << keys.length; held++) {
            List<Integer> start = heldOf(keys, held);
            for (int i = 1; i <= 45; i++) {
                start.add(i * 10);
            }
            int size = start.size();
            for (int cursor : new int[] {0, 1, 21, 22, 23, size - 2, size - 1, size}) {
                dueForEach(calls, start, cursor);
            }
        }
    }

    private static List<Integer> heldOf(int[] keys, int held) {
        List<Integer> chosen = new ArrayList<>();
        for (int i = 0; i < keys.length; i++) {
            if ((held >> i & 1) == 1) {
                chosen.add(keys[i]);
            }
        }
        return chosen;
    }

    private static List<Call> callsWith(int[] keys, int[] places) {
        List<Call> calls = new ArrayList<>();
        for (int key : keys) {
            for (String name : List.of("remove", "get", "place", "seek")) {
                calls.add(new Call(name, key, 0));
            }
            for (int high : keys) {
                for (String name : List.of("count", "sum", "removeAll")) {
                    calls.add(new Call(name, key, high));
                }
            }
            calls.add(new Call("put", key, 5));
        }
        for (int place : places) {
            calls.add(new Call("jump", place, 0));
        }
        for (String name : List.of("next", "back", "key", "set")) {
            calls.add(new Call(name, 6, 0));
        }
        return calls;
    }

    private static void dueForEach(List<Call> calls, List<Integer> keys, int cursor) {
        for (Call call : calls) {
            RedBlackMap map = new RedBlackMap();
            Model model = new Model();
            for (int i = 0; i < keys.size(); i++) {
                Call put = new Call("put", keys.get(i), valueOf(i));
                put.on(map);
                put.on(model);
            }
            Call jump = new Call("jump", cursor, 0);
            jump.on(map);
            jump.on(model);
            String when = "keys " + keys + ", cursor at " + cursor + ", " + call;
            Check.due(when, call.on(map), call.on(model));
            Maps.dueState(when, map, model.entries, model.cursorPlace());
            if (!Check.allRight()) {
                // What follows would only bury the first fault.
                Check.end();
            }
        }
    }

    /** Beyond an int when summed, and no two alike. */
    private static int valueOf(int i) {
        return i % 2 == 0 ? MAX - i : i * 100;
    }
}
