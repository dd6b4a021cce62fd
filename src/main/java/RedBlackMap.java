/**
 * A map in the order of its keys, with places, sums and a cursor.
 *
 * The entries lie in two arrays in the order of their keys: at most 48 are held, so moving them
 * costs little, and the place of an entry is simply its index.
 *
 * Between calls 0 <= cursor <= size <= CAPACITY, which is why no index leaves its array.
 */
public final class RedBlackMap {
    private static final int CAPACITY = 48;

    private final int[] keys = new int[CAPACITY];
    private final int[] values = new int[CAPACITY];
    private int size;

    // The place of the entry at the cursor. The end is the place behind the last entry, so that
    // it moves with added and removed entries by the same rule as any other place.
    private int cursor;

    public RedBlackMap() {
        size = 0;
        cursor = 0;
    }

    public int put(int key, int value) {
        int at = countBelow(key);
        if (holdsAt(at, key)) {
            values[at] = value;
            return 0;
        }
        if (size >= CAPACITY) {
            return -1;
        }
        openGap(at);
        keys[at] = key;
        values[at] = value;
        return 1;
    }

    public int remove(int key) {
        int at = countBelow(key);
        if (!holdsAt(at, key)) {
            return 0;
        }
        closeGap(at, at + 1);
        return 1;
    }

    public int get(int key) {
        int at = countBelow(key);
        return holdsAt(at, key) ? values[at] : 0;
    }

    public int place(int key) {
        int at = countBelow(key);
        return holdsAt(at, key) ? at : -1;
    }

    public int count(int low, int high) {
        // Without this, entries between high and low would be counted as negative.
        if (low > high) {
            return 0;
        }
        int from = countBelow(low);
        int to = countUpTo(high);
        return to - from;
    }

    public long sum(int low, int high) {
        long total = 0;
        for (int i = 0; i < size; i++) {
            if (keys[i] >= low && keys[i] <= high) {
                total += values[i];
            }
        }
        return total;
    }

    public int removeAll(int low, int high) {
        // Without this, the gap to close would end before it begins.
        if (low > high) {
            return 0;
        }
        int from = countBelow(low);
        int to = countUpTo(high);
        closeGap(from, to);
        return to - from;
    }

    public int seek(int key) {
        cursor = countBelow(key);
        return cursor;
    }

    public int jump(int place) {
        if (place < 0 || place >= size) {
            cursor = size;
            return 0;
        }
        cursor = place;
        return 1;
    }

    public int next() {
        if (cursor >= size) {
            return -1;
        }
        cursor++;
        return cursor < size ? 1 : 0;
    }

    public int back() {
        if (cursor <= 0) {
            return -1;
        }
        cursor--;
        return 1;
    }

    public int key() {
        return cursor < size ? keys[cursor] : 0;
    }

    public int set(int value) {
        if (cursor >= size) {
            return 0;
        }
        int before = values[cursor];
        values[cursor] = value;
        return before;
    }

    private int countBelow(int key) {
        int below = 0;
        for (int i = 0; i < size; i++) {
            if (keys[i] < key) {
                below++;
            }
        }
        return below;
    }

    // Not countBelow(key + 1): the greatest int has no successor.
    private int countUpTo(int key) {
        int upTo = 0;
        for (int i = 0; i < size; i++) {
            if (keys[i] <= key) {
                upTo++;
            }
        }
        return upTo;
    }

    private boolean holdsAt(int at, int key) {
        return at < size && keys[at] == key;
    }

    // The caller has made sure that there is room for one entry more.
    private void openGap(int at) {
        for (int i = size; i > at; i--) {
            keys[i] = keys[i - 1];
            values[i] = values[i - 1];
        }
        size++;
        if (cursor >= at) {
            // An entry added just where the cursor is comes before it, also at the end.
            cursor++;
        }
    }

    private void closeGap(int from, int to) {
        int width = to - from;
        for (int i = to; i < size; i++) {
            keys[i - width] = keys[i];
            values[i - width] = values[i];
        }
        size -= width;
        if (cursor >= to) {
            cursor -= width;
        } else if (cursor > from) {
            // The entry at the cursor is gone; the next greater one now lies at the gap's begin.
            cursor = from;
        }
    }
}
