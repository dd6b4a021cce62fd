import java.util.ArrayList;
import java.util.List;
import java.util.TreeMap;

/** Objects to begin with, and what is due of an object's whole state. */
final class Maps {
    static final int MIN = Integer.MIN_VALUE;
    static final int MAX = Integer.MAX_VALUE;
    static final int CAPACITY = 48;

    private Maps() {
    }

    /** Keys 10, 20, .., n * 10, put in a mixed order; each value is the key times 100. */
    static RedBlackMap tens(int n) {
        RedBlackMap map = new RedBlackMap();
        for (int i = n; i >= 1; i -= 2) {
            map.put(i * 10, i * 1000);
        }
        for (int i = n % 2 == 0 ? 1 : 2; i <= n; i += 2) {
            map.put(i * 10, i * 1000);
        }
        return map;
    }

    /** What {@link #tens} puts. */
    static TreeMap<Integer, Integer> tensEntries(int n) {
        TreeMap<Integer, Integer> entries = new TreeMap<>();
        for (int i = 1; i <= n; i++) {
            entries.put(i * 10, i * 1000);
        }
        return entries;
    }

    static void dueAtEnd(String when, RedBlackMap map) {
        Check.due(when + ": next()", map.next(), -1);
        Check.due(when + ": key()", map.key(), 0);
    }

    /**
     * The object holds just these entries, with the cursor at the place (their number for the
     * end). It walks the cursor, so it comes last; for a full object it takes 245 calls, which
     * leaves room for 267 before it.
     */
    static void dueState(
            String when, RedBlackMap map, TreeMap<Integer, Integer> entries, int cursor) {
        List<Integer> keys = new ArrayList<>(entries.keySet());
        Check.due(when + ": key()", map.key(), cursor < keys.size() ? keys.get(cursor) : 0);
        dueEntries(when, map, entries, keys);
        dueWalk(when, map, keys, cursor);
    }

    private static void dueEntries(String when, RedBlackMap map,
            TreeMap<Integer, Integer> entries, List<Integer> keys) {
        Check.due(when + ": number of entries", map.count(MIN, MAX), keys.size());
        long sum = 0;
        for (int place = 0; place < keys.size(); place++) {
            int key = keys.get(place);
            Check.due(when + ": place(" + key + ")", map.place(key), place);
            Check.due(when + ": get(" + key + ")", map.get(key), entries.get(key));
            sum += entries.get(key);
        }
        Check.due(when + ": sum of all", map.sum(MIN, MAX), sum);
    }

    private static void dueWalk(String when, RedBlackMap map, List<Integer> keys, int cursor) {
        int last = keys.size() - 1;
        for (int place = cursor; place <= last; place++) {
            Check.due(when + ": next() from place " + place, map.next(), place < last ? 1 : 0);
        }
        Check.due(when + ": next() at the end", map.next(), -1);
        for (int place = last; place >= 0; place--) {
            Check.due(when + ": back() to place " + place, map.back(), 1);
            Check.due(when + ": key() at place " + place, map.key(), keys.get(place));
        }
        Check.due(when + ": back() at the begin", map.back(), -1);
    }
}
