import java.util.TreeMap;

/** A test for each sentence before promise 1 that names a boundary case. */
public final class TermsBoundaryTest {
    private static final int MIN = Maps.MIN;
    private static final int MAX = Maps.MAX;
    private static final int CAPACITY = Maps.CAPACITY;
    private static final int LAST_CALL = 512;

    public static void main(String[] args) {
        Check.sentence("An object is used for at most 512 calls after it has been made",
                TermsBoundaryTest::the512thCallIsAnsweredRightly);
        Check.sentence("KEYS and VALUES are any ints",
                TermsBoundaryTest::keysAndValuesAreAnyInts);
        Check.sentence("At most 48 ENTRIES are held",
                TermsBoundaryTest::atMost48EntriesAreHeld);
        Check.sentence("no key twice",
                TermsBoundaryTest::noKeyTwice);
        Check.sentence("at the start none is",
                TermsBoundaryTest::atTheStartNoEntryIsHeld);
        Check.sentence("Entries are in the order of their keys",
                TermsBoundaryTest::entriesAreInTheOrderOfTheirKeys);
        Check.sentence("the PLACE of an entry is the number of entries with lesser keys",
                TermsBoundaryTest::placesRunFrom0ToTheLast);
        Check.sentence("behind all entries",
                TermsBoundaryTest::theEndIsBehindAllEntries);
        Check.sentence("there at the start",
                TermsBoundaryTest::theCursorIsAtTheEndAtTheStart);
        Check.sentence("it goes to the entry with the next greater key",
                TermsBoundaryTest::removedAtTheCursorItGoesToTheNextGreaterKey);
        Check.sentence("or to the end if there is none",
                TermsBoundaryTest::removedAtTheCursorItGoesToTheEndIfNoneIsGreater);
        Check.sentence("Adding entries doesn't move it",
                TermsBoundaryTest::addingDoesNotMoveTheCursorFromAnEntry);
        Check.sentence("Adding entries doesn't move it (at the end)",
                TermsBoundaryTest::addingDoesNotMoveTheCursorFromTheEnd);
        Check.sentence("Adding entries doesn't move it (a removed key comes back)",
                TermsBoundaryTest::aRemovedKeyThatComesBackDoesNotMoveTheCursor);
        Check.end();
    }

    private static void the512thCallIsAnsweredRightly() {
        Check.due("put a new key", after511Calls().put(5, 1), -1);
        Check.due("put a held key", after511Calls().put(10, 1), 0);
        Check.due("remove", after511Calls().remove(10), 1);
        Check.due("get", after511Calls().get(480), 48000);
        Check.due("place", after511Calls().place(480), 47);
        Check.due("count", after511Calls().count(MIN, MAX), CAPACITY);
        Check.due("sum", after511Calls().sum(MIN, MAX), 1000L * 48 * 49 / 2);
        Check.due("removeAll", after511Calls().removeAll(MIN, MAX), CAPACITY);
        Check.due("seek", after511Calls().seek(471), 47);
        Check.due("jump", after511Calls().jump(47), 1);
        Check.due("next", after511Calls().next(), 1);
        Check.due("back", after511Calls().back(), 1);
        Check.due("key", after511Calls().key(), 210);
        Check.due("set", after511Calls().set(1), 21000);

        RedBlackMap waiting = new RedBlackMap();
        waiting.put(1, 2);
        for (int call = 2; call < LAST_CALL; call++) {
            Check.due("call " + call + ", next() at the end", waiting.next(), -1);
        }
        Check.due("call 512, back()", waiting.back(), 1);
    }

    /** Full, the cursor at place 20; entries have come and gone more often than 48 times. */
    private static RedBlackMap after511Calls() {
        RedBlackMap map = Maps.tens(CAPACITY);
        int calls = CAPACITY;
        for (int i = 0; calls + 5 <= LAST_CALL; i++, calls += 2) {
            int key = (i * 7 % CAPACITY + 1) * 10;
            Check.due("call " + (calls + 1) + ", remove(" + key + ")", map.remove(key), 1);
            Check.due("call " + (calls + 2) + ", put(" + key + ")", map.put(key, key * 100), 1);
        }
        Check.due("calls made", calls, LAST_CALL - 4);
        map.jump(20);
        map.next();
        map.back();
        return map;
    }

    private static void keysAndValuesAreAnyInts() {
        int[] ints = {0, MAX, MIN, -1, 1, MAX - 1, MIN + 1, 1 << 16, -(1 << 16), 1 << 30, -5, 300};
        TreeMap<Integer, Integer> entries = new TreeMap<>();
        RedBlackMap map = new RedBlackMap();
        for (int i = 0; i < ints.length; i++) {
            int value = ints[(i + 1) % ints.length];
            entries.put(ints[i], value);
            Check.due("put(" + ints[i] + ", " + value + ")", map.put(ints[i], value), 1);
        }
        Maps.dueState("any ints", map, entries, entries.size());

        for (int any : ints) {
            RedBlackMap alone = new RedBlackMap();
            alone.put(any, any);
            Check.due("get of " + any + " alone", alone.get(any), any);
            Check.due("place of " + any + " alone", alone.place(any), 0);
            Check.due("seek of " + any + " alone", alone.seek(any), 0);
            Check.due("key of " + any + " alone", alone.key(), any);
            Check.due("set where " + any + " is the value", alone.set(0), any);
            Check.due("remove of " + any + " alone", alone.remove(any), 1);
            Check.due("get of " + any + " when removed", alone.get(any), 0);
        }
    }

    private static void atMost48EntriesAreHeld() {
        for (int step : new int[] {1, 47, 5, 25}) {
            RedBlackMap map = new RedBlackMap();
            for (int i = 0; i < CAPACITY; i++) {
                int key = i * step % CAPACITY;
                Check.due("entry " + (i + 1) + " of 48, in steps of " + step, map.put(key, 1), 1);
            }
            Check.due("entry 49 above, in steps of " + step, map.put(100, 1), -1);
            Check.due("entry 49 below, in steps of " + step, map.put(-100, 1), -1);
            Check.due("count, in steps of " + step, map.count(MIN, MAX), CAPACITY);
            map.remove(20);
            Check.due("47 held: one more", map.put(100, 1), 1);
            Check.due("48 held again: none more", map.put(20, 1), -1);
            map.removeAll(0, 9);
            for (int i = 0; i < 10; i++) {
                Check.due("38 held: " + (i + 1) + " more", map.put(i, 1), 1);
            }
            Check.due("48 held once more: none more", map.put(20, 1), -1);
            Check.due("count at last", map.count(MIN, MAX), CAPACITY);
        }
    }

    private static void noKeyTwice() {
        for (int key : new int[] {MIN, -1, 0, 1, MAX}) {
            RedBlackMap map = new RedBlackMap();
            map.put(key, 1);
            map.put(key, 2);
            map.put(key, 2);
            Check.due("count of " + key, map.count(MIN, MAX), 1);
            Check.due("sum of " + key, map.sum(MIN, MAX), 2);
            Check.due("remove(" + key + ")", map.remove(key), 1);
            Check.due("remove(" + key + ") again", map.remove(key), 0);
            Check.due("count without " + key, map.count(MIN, MAX), 0);
        }
        RedBlackMap full = Maps.tens(CAPACITY);
        TreeMap<Integer, Integer> entries = Maps.tensEntries(CAPACITY);
        for (int i = 1; i <= CAPACITY; i++) {
            full.put(i * 10, -i);
            entries.put(i * 10, -i);
        }
        Maps.dueState("full, every key put again", full, entries, CAPACITY);
    }

    private static void atTheStartNoEntryIsHeld() {
        RedBlackMap used = Maps.tens(CAPACITY);
        used.jump(3);
        Maps.dueState("a new object beside one in use", new RedBlackMap(), new TreeMap<>(), 0);
        RedBlackMap map = new RedBlackMap();
        Check.due("get(0)", map.get(0), 0);
        Check.due("place(0)", map.place(0), -1);
        Check.due("count(0, 0)", map.count(0, 0), 0);
        Check.due("remove(0)", map.remove(0), 0);
        Check.due("put(0, 0)", map.put(0, 0), 1);
    }

    /** Each of the 120 orders in which five keys can come. */
    private static void entriesAreInTheOrderOfTheirKeys() {
        int[] keys = {MIN, -1, 0, 1, MAX};
        for (int order = 0; order < 5 * 5 * 5 * 5 * 5; order++) {
            RedBlackMap map = new RedBlackMap();
            TreeMap<Integer, Integer> entries = new TreeMap<>();
            for (int rest = order, i = 0; i < keys.length; i++, rest /= 5) {
                entries.put(keys[rest % 5], i);
                map.put(keys[rest % 5], i);
            }
            if (entries.size() == keys.length) {
                Maps.dueState("order " + order, map, entries, keys.length);
            }
        }
    }

    private static void placesRunFrom0ToTheLast() {
        RedBlackMap map = Maps.tens(CAPACITY - 2);
        map.put(MAX, 1);
        map.put(MIN, 1);
        Check.due("place of the least int", map.place(MIN), 0);
        Check.due("place of the least key but one", map.place(10), 1);
        Check.due("place of the greatest key but one", map.place(460), 46);
        Check.due("place of the greatest int", map.place(MAX), 47);
        map.remove(MIN);
        Check.due("place of the least key, when a lesser is gone", map.place(10), 0);
        Check.due("place of the greatest, when a lesser is gone", map.place(MAX), 46);
        map.removeAll(10, 460);
        Check.due("place of the only key", map.place(MAX), 0);
        map.put(MAX - 1, 1);
        Check.due("place when a lesser is added", map.place(MAX), 1);
    }

    private static void theEndIsBehindAllEntries() {
        for (int n : new int[] {0, 1, 2, CAPACITY - 1, CAPACITY}) {
            RedBlackMap map = Maps.tens(n);
            map.jump(0);
            for (int i = 1; i < n; i++) {
                Check.due(n + " entries, next() " + i, map.next(), 1);
            }
            map.next();
            Maps.dueState(n + " entries, behind them all", map, Maps.tensEntries(n), n);
        }
    }

    private static void theCursorIsAtTheEndAtTheStart() {
        Check.due("key()", new RedBlackMap().key(), 0);
        Check.due("next()", new RedBlackMap().next(), -1);
        Check.due("set(1)", new RedBlackMap().set(1), 0);
        RedBlackMap map = new RedBlackMap();
        map.put(MIN, 1);
        map.put(MAX, 2);
        Check.due("key() with entries added", map.key(), 0);
        Check.due("next() with entries added", map.next(), -1);
        Check.due("back() with entries added", map.back(), 1);
        Check.due("key() of the last", map.key(), MAX);
    }

    private static void removedAtTheCursorItGoesToTheNextGreaterKey() {
        for (int place = 0; place < CAPACITY - 1; place++) {
            int key = (place + 1) * 10;
            RedBlackMap map = Maps.tens(CAPACITY);
            TreeMap<Integer, Integer> entries = Maps.tensEntries(CAPACITY);
            map.jump(place);
            map.remove(key);
            entries.remove(key);
            Maps.dueState("full, remove(" + key + ")", map, entries, place);
        }
        for (int low = 1; low <= 7; low++) {
            for (int high = low; high <= 7; high++) {
                dueAtTheEntryAbove(low * 10, high * 10);
            }
        }
        RedBlackMap map = new RedBlackMap();
        map.put(MIN, 1);
        map.put(MAX, 2);
        map.jump(0);
        map.remove(MIN);
        Check.due("from the least int to the greatest", map.key(), MAX);
    }

    /** Of eight entries those from low to high are removed, with the cursor at each of them. */
    private static void dueAtTheEntryAbove(int low, int high) {
        TreeMap<Integer, Integer> entries = Maps.tensEntries(8);
        entries.subMap(low, true, high, true).clear();
        for (int key = low; key <= high; key += 10) {
            RedBlackMap map = Maps.tens(8);
            map.seek(key);
            map.removeAll(low, high);
            String when = "at " + key + ", removeAll(" + low + ", " + high + ")";
            Maps.dueState(when, map, entries, low / 10 - 1);
        }
    }

    private static void removedAtTheCursorItGoesToTheEndIfNoneIsGreater() {
        for (int n : new int[] {1, 2, CAPACITY - 1, CAPACITY}) {
            RedBlackMap map = Maps.tens(n);
            map.jump(n - 1);
            map.remove(n * 10);
            Maps.dueState("the last of " + n, map, Maps.tensEntries(n - 1), n - 1);
        }
        for (int left = 0; left < CAPACITY; left++) {
            for (int place : new int[] {left, CAPACITY - 1}) {
                RedBlackMap map = Maps.tens(CAPACITY);
                map.jump(place);
                map.removeAll(left * 10 + 1, MAX);
                String when = "at place " + place + " of 48, all but " + left;
                Maps.dueState(when, map, Maps.tensEntries(left), left);
            }
        }
        RedBlackMap map = Maps.tens(3);
        map.put(MAX, 1);
        map.seek(MAX);
        map.remove(MAX);
        Maps.dueState("the greatest int", map, Maps.tensEntries(3), 3);
    }

    private static void addingDoesNotMoveTheCursorFromAnEntry() {
        for (int place = 0; place < CAPACITY - 1; place++) {
            int at = (place + 1) * 10;
            dueAfterAdding(place, MIN, place + 1);
            dueAfterAdding(place, at - 1, place + 1);
            dueAfterAdding(place, at + 1, place);
            dueAfterAdding(place, MAX, place);
        }
    }

    /** To 47 entries the last one for which there is room is added. */
    private static void dueAfterAdding(int place, int key, int placeThen) {
        RedBlackMap map = Maps.tens(CAPACITY - 1);
        TreeMap<Integer, Integer> entries = Maps.tensEntries(CAPACITY - 1);
        map.jump(place);
        map.put(key, 7);
        entries.put(key, 7);
        Maps.dueState("at place " + place + ", put(" + key + ")", map, entries, placeThen);
    }

    private static void addingDoesNotMoveTheCursorFromTheEnd() {
        dueAfterAdding(CAPACITY - 1, MIN, CAPACITY);
        dueAfterAdding(CAPACITY - 1, 55, CAPACITY);
        dueAfterAdding(CAPACITY - 1, MAX, CAPACITY);
        RedBlackMap map = new RedBlackMap();
        for (int i = 1; i <= CAPACITY; i++) {
            map.put(i, i);
            Check.due("key() with " + i + " added, each the greatest", map.key(), 0);
            Check.due("next() with " + i + " added, each the greatest", map.next(), -1);
        }
        Check.due("back() when full", map.back(), 1);
        Check.due("key() of the last", map.key(), CAPACITY);
    }

    private static void aRemovedKeyThatComesBackDoesNotMoveTheCursor() {
        RedBlackMap map = Maps.tens(5);
        map.seek(30);
        map.remove(30);
        map.put(30, 3000);
        Maps.dueState("remove(30), put(30)", map, Maps.tensEntries(5), 3);

        RedBlackMap last = Maps.tens(5);
        last.seek(50);
        last.remove(50);
        last.put(50, 5000);
        Maps.dueState("remove(50), put(50)", last, Maps.tensEntries(5), 5);

        RedBlackMap all = Maps.tens(2);
        all.jump(0);
        all.removeAll(MIN, MAX);
        all.put(10, 1000);
        all.put(20, 2000);
        Maps.dueState("all removed and put again", all, Maps.tensEntries(2), 2);
    }
}
