/** One method for each promise of the document: ordinary inputs, edges, wrong inputs. */
public final class PromisesTest {
    private static final int MIN = Maps.MIN;
    private static final int MAX = Maps.MAX;
    private static final int CAPACITY = Maps.CAPACITY;

    public static void main(String[] args) {
        promise1NewObject();
        promise2Put();
        promise2PutWhenFull();
        promise2PutLeavesTheCursor();
        promise3Remove();
        promise3RemoveAndTheCursor();
        promise4Get();
        promise5Place();
        promise6Count();
        promise7Sum();
        promise8RemoveAll();
        promise8RemoveAllAndTheCursor();
        promise9Seek();
        promise10Jump();
        promise11Next();
        promise12Back();
        promise13Key();
        promise14Set();
        Check.end();
    }

    private static void dueEntries(String when, RedBlackMap map, int... keys) {
        Check.due(when + ": number of entries", map.count(MIN, MAX), keys.length);
        for (int i = 0; i < keys.length; i++) {
            Check.due(when + ": place(" + keys[i] + ")", map.place(keys[i]), i);
        }
    }

    private static void promise1NewObject() {
        RedBlackMap map = new RedBlackMap();
        Check.due("1: key()", map.key(), 0);
        Check.due("1: set(5)", map.set(5), 0);
        Check.due("1: next()", map.next(), -1);
        Check.due("1: back()", map.back(), -1);
        Check.due("1: count(all)", map.count(MIN, MAX), 0);
        Check.due("1: sum(all)", map.sum(MIN, MAX), 0);
        Check.due("1: get(0)", map.get(0), 0);
        Check.due("1: place(0)", map.place(0), -1);
        Check.due("1: remove(0)", map.remove(0), 0);
        Check.due("1: removeAll(all)", map.removeAll(MIN, MAX), 0);
        Check.due("1: jump(0)", map.jump(0), 0);
        Check.due("1: seek(least)", map.seek(MIN), 0);

        RedBlackMap other = new RedBlackMap();
        map.put(1, 1);
        Check.due("1: an object has its own entries", other.count(MIN, MAX), 0);
        Check.due("1: the cursor was at the end", map.next(), -1);
    }

    private static void promise2Put() {
        RedBlackMap map = new RedBlackMap();
        Check.due("2: put(5, 50)", map.put(5, 50), 1);
        Check.due("2: put(5, 51)", map.put(5, 51), 0);
        Check.due("2: get(5)", map.get(5), 51);
        Check.due("2: put(5, 51) again", map.put(5, 51), 0);
        Check.due("2: put(3, 0)", map.put(3, 0), 1);
        Check.due("2: put(3, 30)", map.put(3, 30), 0);
        Check.due("2: put(4, 40)", map.put(4, 40), 1);
        Check.due("2: put(0, 7)", map.put(0, 7), 1);
        Check.due("2: put(-1, 8)", map.put(-1, 8), 1);
        Check.due("2: put(greatest)", map.put(MAX, MIN), 1);
        Check.due("2: put(least)", map.put(MIN, MAX), 1);
        dueEntries("2", map, MIN, -1, 0, 3, 4, 5, MAX);
        Check.due("2: get(3)", map.get(3), 30);
        Check.due("2: get(4)", map.get(4), 40);
        Check.due("2: get(5)", map.get(5), 51);
        Check.due("2: get(greatest)", map.get(MAX), MIN);
        Check.due("2: get(least)", map.get(MIN), MAX);
        Check.due("2: remove(4)", map.remove(4), 1);
        Check.due("2: put(4, 41) after remove", map.put(4, 41), 1);
        Check.due("2: get(4)", map.get(4), 41);
    }

    private static void promise2PutWhenFull() {
        RedBlackMap map = new RedBlackMap();
        for (int i = 1; i <= CAPACITY; i++) {
            Check.due("2: put " + i, map.put(i * 10, i), 1);
        }
        map.jump(20);
        Check.due("2: full, put(0)", map.put(0, 9), -1);
        Check.due("2: full, put(15)", map.put(15, 9), -1);
        Check.due("2: full, put(481)", map.put(481, 9), -1);
        Check.due("2: full, key()", map.key(), 210);
        Check.due("2: full, count", map.count(MIN, MAX), CAPACITY);
        Check.due("2: full, sum", map.sum(MIN, MAX), 48 * 49 / 2);
        Check.due("2: full, get(15)", map.get(15), 0);
        Check.due("2: full, put(10, 5)", map.put(10, 5), 0);
        Check.due("2: full, put(480, 6)", map.put(480, 6), 0);
        Check.due("2: full, get(10)", map.get(10), 5);
        Check.due("2: full, get(480)", map.get(480), 6);
        Check.due("2: full, back at the end", map.seek(MAX), CAPACITY);
        Check.due("2: full, put(481) with the cursor at the end", map.put(481, 9), -1);
        Maps.dueAtEnd("2: full", map);
        map.remove(200);
        Check.due("2: room again, put(15)", map.put(15, 9), 1);
        Check.due("2: full again, put(16)", map.put(16, 9), -1);
    }

    private static void promise2PutLeavesTheCursor() {
        RedBlackMap map = Maps.tens(3);
        map.seek(20);
        map.put(15, 1);
        Check.due("2: entry added just before the cursor", map.key(), 20);
        map.put(25, 1);
        Check.due("2: entry added just behind the cursor", map.key(), 20);
        map.put(MIN, 1);
        map.put(MAX, 1);
        map.put(10, 1);
        map.put(20, 1);
        Check.due("2: entries added far off or there already", map.key(), 20);
        map.jump(-1);
        map.put(12, 1);
        map.put(MAX - 1, 1);
        Maps.dueAtEnd("2: entries added while at the end", map);
        map.remove(MAX);
        map.remove(MAX - 1);
        map.put(MAX, 1);
        Maps.dueAtEnd("2: a last entry added while at the end", map);
        map.back();
        Check.due("2: back() to the last entry", map.key(), MAX);
    }

    private static void promise3Remove() {
        RedBlackMap map = Maps.tens(7);
        Check.due("3: remove(45)", map.remove(45), 0);
        Check.due("3: remove(least)", map.remove(MIN), 0);
        Check.due("3: remove(greatest)", map.remove(MAX), 0);
        Check.due("3: remove(0)", map.remove(0), 0);
        dueEntries("3: nothing removed", map, 10, 20, 30, 40, 50, 60, 70);
        Check.due("3: remove(40)", map.remove(40), 1);
        Check.due("3: remove(40) again", map.remove(40), 0);
        dueEntries("3: 40 removed", map, 10, 20, 30, 50, 60, 70);
        Check.due("3: get(40)", map.get(40), 0);
        Check.due("3: get(30)", map.get(30), 3000);
        Check.due("3: get(50)", map.get(50), 5000);
        Check.due("3: remove first", map.remove(10), 1);
        Check.due("3: remove last", map.remove(70), 1);
        dueEntries("3: first and last removed", map, 20, 30, 50, 60);
        Check.due("3: get(60)", map.get(60), 6000);
        map.put(0, 1);
        Check.due("3: remove(0) when there", map.remove(0), 1);
        map.put(MIN, 1);
        map.put(MAX, 1);
        Check.due("3: remove(least) when there", map.remove(MIN), 1);
        Check.due("3: remove(greatest) when there", map.remove(MAX), 1);
        dueEntries("3: extremes removed", map, 20, 30, 50, 60);
    }

    private static void promise3RemoveAndTheCursor() {
        RedBlackMap map = Maps.tens(6);
        map.seek(30);
        map.remove(30);
        Check.due("3: entry at the cursor removed", map.key(), 40);
        map.remove(10);
        Check.due("3: entry far before removed", map.key(), 40);
        map.remove(20);
        Check.due("3: entry just before removed", map.key(), 40);
        map.remove(50);
        Check.due("3: entry just behind removed", map.key(), 40);
        map.remove(45);
        Check.due("3: missing entry removed", map.key(), 40);
        map.next();
        Check.due("3: at the last entry", map.key(), 60);
        map.remove(60);
        Maps.dueAtEnd("3: last entry removed at the cursor", map);
        map.put(70, 7);
        map.remove(40);
        Maps.dueAtEnd("3: first entry removed while at the end", map);
        map.remove(70);
        Maps.dueAtEnd("3: only entry removed while at the end", map);
        Check.due("3: back() without entries", map.back(), -1);
    }

    private static void promise4Get() {
        RedBlackMap map = Maps.tens(5);
        for (int i = 1; i <= 5; i++) {
            Check.due("4: get(" + i * 10 + ")", map.get(i * 10), i * 1000);
            Check.due("4: get(" + (i * 10 + 1) + ")", map.get(i * 10 + 1), 0);
            Check.due("4: get(" + (i * 10 - 1) + ")", map.get(i * 10 - 1), 0);
        }
        Check.due("4: get(least)", map.get(MIN), 0);
        Check.due("4: get(greatest)", map.get(MAX), 0);
        Check.due("4: get(0)", map.get(0), 0);
        map.put(0, -1);
        map.put(MIN, -2);
        map.put(MAX, -3);
        Check.due("4: get(0) when there", map.get(0), -1);
        Check.due("4: get(least) when there", map.get(MIN), -2);
        Check.due("4: get(greatest) when there", map.get(MAX), -3);
        map.put(20, 0);
        Check.due("4: get of value 0", map.get(20), 0);
        Check.due("4: an entry of value 0 is there", map.place(20), 3);
        map.seek(30);
        map.get(10);
        Check.due("4: get() leaves the cursor", map.key(), 30);
    }

    private static void promise5Place() {
        RedBlackMap map = Maps.tens(5);
        dueEntries("5", map, 10, 20, 30, 40, 50);
        Check.due("5: place(9)", map.place(9), -1);
        Check.due("5: place(25)", map.place(25), -1);
        Check.due("5: place(51)", map.place(51), -1);
        Check.due("5: place(0)", map.place(0), -1);
        Check.due("5: place(least)", map.place(MIN), -1);
        Check.due("5: place(greatest)", map.place(MAX), -1);
        map.put(MIN, 0);
        map.put(MAX, 0);
        dueEntries("5: with extremes", map, MIN, 10, 20, 30, 40, 50, MAX);
        map.seek(30);
        map.place(10);
        Check.due("5: place() leaves the cursor", map.key(), 30);
        Check.due("5: full, last place", Maps.tens(CAPACITY).place(480), 47);
    }

    private static void promise6Count() {
        RedBlackMap map = Maps.tens(5);
        Check.due("6: count(20, 40)", map.count(20, 40), 3);
        Check.due("6: count(19, 41)", map.count(19, 41), 3);
        Check.due("6: count(21, 39)", map.count(21, 39), 1);
        Check.due("6: count(30, 30)", map.count(30, 30), 1);
        Check.due("6: count(31, 31)", map.count(31, 31), 0);
        Check.due("6: count(31, 39)", map.count(31, 39), 0);
        Check.due("6: count(least, 9)", map.count(MIN, 9), 0);
        Check.due("6: count(51, greatest)", map.count(51, MAX), 0);
        Check.due("6: count(all)", map.count(MIN, MAX), 5);
        Check.due("6: count(40, 20)", map.count(40, 20), 0);
        Check.due("6: count(21, 20)", map.count(21, 20), 0);
        Check.due("6: count(greatest, least)", map.count(MAX, MIN), 0);
        map.put(MIN, 0);
        map.put(MAX, 0);
        Check.due("6: count(all) with extremes", map.count(MIN, MAX), 7);
        Check.due("6: count(least, least)", map.count(MIN, MIN), 1);
        Check.due("6: count(greatest, greatest)", map.count(MAX, MAX), 1);
        Check.due("6: count(all but extremes)", map.count(MIN + 1, MAX - 1), 5);
        map.seek(30);
        map.count(10, 50);
        Check.due("6: count() leaves the cursor", map.key(), 30);
        Check.due("6: full", Maps.tens(CAPACITY).count(10, 480), 48);
    }

    private static void promise7Sum() {
        RedBlackMap map = Maps.tens(5);
        Check.due("7: sum(20, 40)", map.sum(20, 40), 9000);
        Check.due("7: sum(19, 41)", map.sum(19, 41), 9000);
        Check.due("7: sum(21, 39)", map.sum(21, 39), 3000);
        Check.due("7: sum(30, 30)", map.sum(30, 30), 3000);
        Check.due("7: sum(31, 39)", map.sum(31, 39), 0);
        Check.due("7: sum(all)", map.sum(MIN, MAX), 15000);
        Check.due("7: sum(40, 20)", map.sum(40, 20), 0);
        Check.due("7: sum(greatest, least)", map.sum(MAX, MIN), 0);
        map.put(20, -2000);
        Check.due("7: sum(10, 20) after put", map.sum(10, 20), -1000);
        map.seek(10);
        map.set(5);
        Check.due("7: sum(10, 20) after set", map.sum(10, 20), -1995);
        map.remove(20);
        Check.due("7: sum(10, 20) after remove", map.sum(10, 20), 5);
        map.put(MIN, 1);
        map.put(MAX, 2);
        Check.due("7: sum(least, least)", map.sum(MIN, MIN), 1);
        Check.due("7: sum(greatest, greatest)", map.sum(MAX, MAX), 2);
        Check.due("7: sum() leaves the cursor", map.key(), 10);

        RedBlackMap great = new RedBlackMap();
        RedBlackMap small = new RedBlackMap();
        for (int i = 0; i < CAPACITY; i++) {
            great.put(i, MAX);
            small.put(i, MIN);
        }
        Check.due("7: sum beyond int", great.sum(MIN, MAX), 48L * MAX);
        Check.due("7: sum below int", small.sum(MIN, MAX), 48L * MIN);
    }

    private static void promise8RemoveAll() {
        RedBlackMap map = Maps.tens(9);
        Check.due("8: removeAll(60, 40)", map.removeAll(60, 40), 0);
        Check.due("8: removeAll(greatest, least)", map.removeAll(MAX, MIN), 0);
        Check.due("8: removeAll(41, 49)", map.removeAll(41, 49), 0);
        Check.due("8: removeAll(least, 9)", map.removeAll(MIN, 9), 0);
        Check.due("8: removeAll(91, greatest)", map.removeAll(91, MAX), 0);
        dueEntries("8: nothing removed", map, 10, 20, 30, 40, 50, 60, 70, 80, 90);
        Check.due("8: removeAll(40, 60)", map.removeAll(40, 60), 3);
        dueEntries("8: middle removed", map, 10, 20, 30, 70, 80, 90);
        Check.due("8: get(50)", map.get(50), 0);
        Check.due("8: get(30)", map.get(30), 3000);
        Check.due("8: get(70)", map.get(70), 7000);
        Check.due("8: get(90)", map.get(90), 9000);
        Check.due("8: removeAll(least, 10)", map.removeAll(MIN, 10), 1);
        Check.due("8: removeAll(85, greatest)", map.removeAll(85, MAX), 1);
        dueEntries("8: ends removed", map, 20, 30, 70, 80);
        Check.due("8: removeAll(70, 70)", map.removeAll(70, 70), 1);
        dueEntries("8: one removed", map, 20, 30, 80);
        map.put(MIN, 1);
        map.put(MAX, 1);
        Check.due("8: removeAll(all)", map.removeAll(MIN, MAX), 5);
        Check.due("8: count(all)", map.count(MIN, MAX), 0);
        Check.due("8: removeAll(all) again", map.removeAll(MIN, MAX), 0);

        RedBlackMap full = Maps.tens(CAPACITY);
        Check.due("8: full, removeAll(all)", full.removeAll(10, 480), 48);
        for (int i = 0; i < CAPACITY; i++) {
            Check.due("8: room after removeAll", full.put(i, i), 1);
        }
        Check.due("8: full again", full.put(CAPACITY, 0), -1);
    }

    private static void promise8RemoveAllAndTheCursor() {
        dueKeyAfterRemoveAll(50, 30, 50, 60);
        dueKeyAfterRemoveAll(50, 50, 70, 80);
        dueKeyAfterRemoveAll(50, 30, 70, 80);
        dueKeyAfterRemoveAll(50, 50, 50, 60);
        dueKeyAfterRemoveAll(50, 20, 40, 50);
        dueKeyAfterRemoveAll(50, 10, 30, 50);
        dueKeyAfterRemoveAll(50, 60, 90, 50);
        dueKeyAfterRemoveAll(50, 70, 30, 50);
        dueKeyAfterRemoveAll(50, 41, 49, 50);
        dueKeyAfterRemoveAll(10, MIN, 20, 30);
        dueKeyAfterRemoveAll(50, 30, MAX, 0);
        dueKeyAfterRemoveAll(90, 90, 90, 0);
        dueKeyAfterRemoveAll(MAX, 10, 50, 0);
        dueKeyAfterRemoveAll(MAX, 80, 90, 0);
        dueKeyAfterRemoveAll(MAX, MIN, MAX, 0);
    }

    private static void dueKeyAfterRemoveAll(int start, int low, int high, int want) {
        RedBlackMap map = Maps.tens(9);
        map.seek(start);
        map.removeAll(low, high);
        String when = "8: at " + start + ", removeAll(" + low + ", " + high + ")";
        Check.due(when + ", key()", map.key(), want);
        if (want == 0) {
            Maps.dueAtEnd(when, map);
        }
    }

    private static void promise9Seek() {
        RedBlackMap map = Maps.tens(5);
        dueSeek(map, 30, 2, 30);
        dueSeek(map, 31, 3, 40);
        dueSeek(map, 29, 2, 30);
        dueSeek(map, 10, 0, 10);
        dueSeek(map, MIN, 0, 10);
        dueSeek(map, 50, 4, 50);
        dueSeek(map, 51, 5, 0);
        Maps.dueAtEnd("9: seek(51)", map);
        dueSeek(map, 0, 0, 10);
        dueSeek(map, MAX, 5, 0);
        Maps.dueAtEnd("9: seek(greatest)", map);
        map.put(MAX, 1);
        map.put(MIN, 1);
        dueSeek(map, MAX, 6, MAX);
        dueSeek(map, 51, 6, MAX);
        dueSeek(map, MIN, 0, MIN);
        dueSeek(map, MIN + 1, 1, 10);
        dueEntries("9: entries stay", map, MIN, 10, 20, 30, 40, 50, MAX);
    }

    private static void dueSeek(RedBlackMap map, int key, int place, int found) {
        Check.due("9: seek(" + key + ")", map.seek(key), place);
        Check.due("9: key() after seek(" + key + ")", map.key(), found);
    }

    private static void promise10Jump() {
        RedBlackMap map = Maps.tens(5);
        for (int i = 4; i >= 0; i--) {
            Check.due("10: jump(" + i + ")", map.jump(i), 1);
            Check.due("10: key() after jump(" + i + ")", map.key(), (i + 1) * 10);
        }
        for (int place : new int[] {5, -1, 6, 47, 48, 49, MIN, MAX}) {
            map.jump(2);
            Check.due("10: jump(" + place + ")", map.jump(place), 0);
            Maps.dueAtEnd("10: jump(" + place + ")", map);
        }
        map.back();
        Check.due("10: the end is behind the last entry", map.key(), 50);

        RedBlackMap full = Maps.tens(CAPACITY);
        Check.due("10: full, jump(47)", full.jump(47), 1);
        Check.due("10: full, key()", full.key(), 480);
        Check.due("10: full, jump(48)", full.jump(48), 0);
        Maps.dueAtEnd("10: full, jump(48)", full);
    }

    private static void promise11Next() {
        RedBlackMap map = Maps.tens(CAPACITY);
        map.jump(0);
        for (int i = 1; i < CAPACITY; i++) {
            Check.due("11: next() to place " + i, map.next(), 1);
            Check.due("11: key() at place " + i, map.key(), (i + 1) * 10);
        }
        Check.due("11: next() to the end", map.next(), 0);
        Check.due("11: key() at the end", map.key(), 0);
        Check.due("11: next() at the end", map.next(), -1);
        Check.due("11: next() at the end again", map.next(), -1);
        Check.due("11: back() from the end", map.back(), 1);
        Check.due("11: the end stayed behind the last entry", map.key(), 480);
    }

    private static void promise12Back() {
        RedBlackMap map = Maps.tens(CAPACITY);
        map.jump(-1);
        for (int i = CAPACITY; i >= 1; i--) {
            Check.due("12: back() to key " + i * 10, map.back(), 1);
            Check.due("12: key()", map.key(), i * 10);
        }
        Check.due("12: back() at the first entry", map.back(), -1);
        Check.due("12: back() at the first entry again", map.back(), -1);
        Check.due("12: key() stays", map.key(), 10);
        Check.due("12: next() goes to the second", map.next(), 1);
        Check.due("12: key() of the second", map.key(), 20);

        RedBlackMap empty = new RedBlackMap();
        Check.due("12: back() without entries", empty.back(), -1);
        empty.put(5, 5);
        Check.due("12: the cursor stayed at the end", empty.key(), 0);
        Check.due("12: back() to the only entry", empty.back(), 1);
        Check.due("12: key() of the only entry", empty.key(), 5);
        Check.due("12: back() at the only entry", empty.back(), -1);
    }

    private static void promise13Key() {
        RedBlackMap map = new RedBlackMap();
        Check.due("13: key() without entries", map.key(), 0);
        map.put(MAX, 1);
        map.put(-5, 2);
        map.put(MIN, 3);
        map.put(0, 4);
        Check.due("13: key() at the end", map.key(), 0);
        int[] keys = {MIN, -5, 0, MAX};
        for (int i = 0; i < keys.length; i++) {
            map.jump(i);
            Check.due("13: key() at place " + i, map.key(), keys[i]);
            Check.due("13: key() again at place " + i, map.key(), keys[i]);
        }
        map.next();
        Check.due("13: key() at the end again", map.key(), 0);
        map.removeAll(MIN, MAX);
        Check.due("13: key() with all removed", map.key(), 0);
    }

    private static void promise14Set() {
        RedBlackMap map = Maps.tens(3);
        Check.due("14: set(7) at the end", map.set(7), 0);
        Check.due("14: sum after set at the end", map.sum(MIN, MAX), 6000);
        Check.due("14: set at the end adds nothing", map.count(MIN, MAX), 3);
        map.seek(20);
        Check.due("14: set(7)", map.set(7), 2000);
        Check.due("14: set(greatest)", map.set(MAX), 7);
        Check.due("14: set(least)", map.set(MIN), MAX);
        Check.due("14: set(0)", map.set(0), MIN);
        Check.due("14: set(8)", map.set(8), 0);
        Check.due("14: get(20)", map.get(20), 8);
        Check.due("14: key() stays", map.key(), 20);
        Check.due("14: get(10) stays", map.get(10), 1000);
        Check.due("14: get(30) stays", map.get(30), 3000);
        map.put(20, 9);
        Check.due("14: set answers what put left", map.set(10), 9);
        map.remove(20);
        Check.due("14: set after the entry is removed", map.set(11), 3000);
        map.remove(30);
        Check.due("14: set when removed up to the end", map.set(12), 0);
        map.put(30, 5);
        Check.due("14: a new entry keeps its own value", map.get(30), 5);

        RedBlackMap full = Maps.tens(CAPACITY);
        Check.due("14: full, set at the end", full.set(1), 0);
        full.back();
        Check.due("14: full, set at the last", full.set(1), 48000);
    }
}
