import java.util.Map;
import java.util.TreeMap;

/**
 * What the document says, told a second time in the plainest way: a TreeMap, and the key of the
 * entry at the cursor, null for the end.
 */
final class Model {
    final TreeMap<Integer, Integer> entries = new TreeMap<>();
    private Integer cursor = null;

    /** The place of the entry at the cursor; the number of entries for the end. */
    int cursorPlace() {
        return cursor == null ? entries.size() : entries.headMap(cursor).size();
    }

    int put(int key, int value) {
        if (entries.containsKey(key)) {
            entries.put(key, value);
            return 0;
        }
        if (entries.size() == Maps.CAPACITY) {
            return -1;
        }
        entries.put(key, value);
        return 1;
    }

    int remove(int key) {
        if (!entries.containsKey(key)) {
            return 0;
        }
        entries.remove(key);
        if (cursor != null && cursor == key) {
            cursor = entries.higherKey(key);
        }
        return 1;
    }

    int get(int key) {
        return entries.getOrDefault(key, 0);
    }

    int place(int key) {
        return entries.containsKey(key) ? entries.headMap(key).size() : -1;
    }

    int count(int low, int high) {
        int count = 0;
        for (int key : entries.keySet()) {
            count += low <= key && key <= high ? 1 : 0;
        }
        return count;
    }

    long sum(int low, int high) {
        long sum = 0;
        for (Map.Entry<Integer, Integer> entry : entries.entrySet()) {
            sum += low <= entry.getKey() && entry.getKey() <= high ? entry.getValue() : 0;
        }
        return sum;
    }

    int removeAll(int low, int high) {
        int removed = 0;
        for (int key : entries.keySet().toArray(new Integer[0])) {
            if (low <= key && key <= high) {
                removed += remove(key);
            }
        }
        return removed;
    }

    int seek(int key) {
        cursor = entries.ceilingKey(key);
        return entries.headMap(key).size();
    }

    int jump(int place) {
        cursor = null;
        int at = 0;
        for (Integer key : entries.keySet()) {
            if (at == place) {
                cursor = key;
            }
            at++;
        }
        return cursor == null ? 0 : 1;
    }

    int next() {
        if (cursor == null) {
            return -1;
        }
        cursor = entries.higherKey(cursor);
        return cursor == null ? 0 : 1;
    }

    int back() {
        Map.Entry<Integer, Integer> before =
                cursor == null ? entries.lastEntry() : entries.lowerEntry(cursor);
        if (before == null) {
            return -1;
        }
        cursor = before.getKey();
        return 1;
    }

    int key() {
        return cursor == null ? 0 : cursor;
    }

    int set(int value) {
        return cursor == null ? 0 : entries.put(cursor, value);
    }
}
