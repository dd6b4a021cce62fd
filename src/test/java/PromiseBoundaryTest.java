import java.util.TreeMap;

/** A test for each sentence of promises 1 to 14 that names a boundary case. */
public final class PromiseBoundaryTest {
    private static final int MIN = Maps.MIN;
    private static final int MAX = Maps.MAX;
    private static final int CAPACITY = Maps.CAPACITY;

    public static void main(String[] args) {
        testPromises1To5();
        testPromises6To8();
        testPromises9To14();
        Check.end();
    }

    private static void testPromises1To5() {
        Check.sentence("1: No entry; the cursor is at the end",
                PromiseBoundaryTest::everyCallOnANewObject);
        Check.sentence("2: Answers 1 if there was no entry with the key before",
                PromiseBoundaryTest::putOfAKeyThatIsNotHeld);
        Check.sentence("2: 0 if there was",
                PromiseBoundaryTest::putOfAHeldKey);
        Check.sentence("2: 0 if there was (when 48 are held)",
                PromiseBoundaryTest::putOfAHeldKeyWhenFull);
        Check.sentence("2: -1, and changes nothing, if there was none and 48 are held",
                PromiseBoundaryTest::putRefusedWhenFull);
        Check.sentence("3: Removes the entry with the key. Answers 1 (down to none, from 48)",
                PromiseBoundaryTest::removeDownToNone);
        Check.sentence("3: or 0 if there is none",
                PromiseBoundaryTest::removeOfAKeyThatIsNotHeld);
        Check.sentence("4: 0 if there is no entry with it",
                PromiseBoundaryTest::getOfAKeyThatIsNotHeld);
        Check.sentence("5: or -1 if there is none",
                PromiseBoundaryTest::placeOfAKeyThatIsNotHeld);
    }

    private static void testPromises6To8() {
        Check.sentence("6: from low to high (both included)",
                PromiseBoundaryTest::countIncludesBothEnds);
        Check.sentence("6: How many entries (none)",
                PromiseBoundaryTest::countOfNone);
        Check.sentence("6: How many entries (up to the greatest int)",
                PromiseBoundaryTest::countUpToTheGreatestInt);
        Check.sentence("7: all entries with a key from low to high",
                PromiseBoundaryTest::sumIncludesBothEnds);
        Check.sentence("7: The sum of the values (none)",
                PromiseBoundaryTest::sumOfNone);
        Check.sentence("7: long sum",
                PromiseBoundaryTest::sumBeyondAnInt);
        Check.sentence("8: all entries with a key from low to high",
                PromiseBoundaryTest::removeAllIncludesBothEnds);
        Check.sentence("8: Answers how many these were (none)",
                PromiseBoundaryTest::removeAllOfNone);
        Check.sentence("8: Removes all entries (every one, from 48)",
                PromiseBoundaryTest::removeAllOfEveryEntry);
    }

    private static void testPromises9To14() {
        Check.sentence("9: the entry with the least key that is at least key",
                PromiseBoundaryTest::seekToAnEntry);
        Check.sentence("9: or to the end if there is none",
                PromiseBoundaryTest::seekToTheEnd);
        Check.sentence("9: Answers its place (the number of entries for the end)",
                PromiseBoundaryTest::seekToTheEndAnswersTheNumberOfEntries);
        Check.sentence("10: The cursor goes to the entry at the place (first and last)",
                PromiseBoundaryTest::jumpToAnEntry);
        Check.sentence("10: or to the end if there is none",
                PromiseBoundaryTest::jumpToTheEnd);
        Check.sentence("10: Answers 1 if it is at an entry then, else 0",
                PromiseBoundaryTest::jumpTellsAnEntryFromTheEnd);
        Check.sentence("11: or to the end",
                PromiseBoundaryTest::nextFromTheLastEntry);
        Check.sentence("11: Answers 1 if it is at an entry then, 0 if it is at the end",
                PromiseBoundaryTest::nextTellsAnEntryFromTheEnd);
        Check.sentence("11: -1 if it was at the end before",
                PromiseBoundaryTest::nextAtTheEnd);
        Check.sentence("12: from the end to the last one",
                PromiseBoundaryTest::backFromTheEnd);
        Check.sentence("12: -1, and changes nothing, if there is none before",
                PromiseBoundaryTest::backWithNoneBefore);
        Check.sentence("13: 0 at the end",
                PromiseBoundaryTest::keyAtTheEnd);
        Check.sentence("13: The key of the entry at the cursor (0 and the extremes)",
                PromiseBoundaryTest::keyAtAnEntry);
        Check.sentence("14: Answers the value before",
                PromiseBoundaryTest::setAtAnEntry);
        Check.sentence("14: 0, and changes nothing, at the end",
                PromiseBoundaryTest::setAtTheEnd);
        Check.sentence("4 to 7 and 13: calls of which no change is told",
                PromiseBoundaryTest::askingChangesNothing);
    }

    private static void everyCallOnANewObject() {
        Check.due("put(0, 0)", new RedBlackMap().put(0, 0), 1);
        Check.due("remove(0)", new RedBlackMap().remove(0), 0);
        Check.due("get(0)", new RedBlackMap().get(0), 0);
        Check.due("place(0)", new RedBlackMap().place(0), -1);
        Check.due("count(all)", new RedBlackMap().count(MIN, MAX), 0);
        Check.due("sum(all)", new RedBlackMap().sum(MIN, MAX), 0);
        Check.due("removeAll(all)", new RedBlackMap().removeAll(MIN, MAX), 0);
        Check.due("seek(least)", new RedBlackMap().seek(MIN), 0);
        Check.due("seek(greatest)", new RedBlackMap().seek(MAX), 0);
        Check.due("jump(0)", new RedBlackMap().jump(0), 0);
        Check.due("next()", new RedBlackMap().next(), -1);
        Check.due("back()", new RedBlackMap().back(), -1);
        Check.due("key()", new RedBlackMap().key(), 0);
        Check.due("set(5)", new RedBlackMap().set(5), 0);
        Maps.dueState("new", new RedBlackMap(), new TreeMap<>(), 0);
    }

    private static void putOfAKeyThatIsNotHeld() {
        RedBlackMap map = new RedBlackMap();
        Check.due("the first", map.put(0, 0), 1);
        map.remove(0);
        Check.due("a removed key", map.put(0, 0), 1);
        map.removeAll(MIN, MAX);
        Check.due("a key removed with all others", map.put(0, 0), 1);
        Check.due("the key just below", map.put(-1, 0), 1);
        Check.due("the key just above", map.put(1, 0), 1);

        RedBlackMap full = Maps.tens(CAPACITY);
        full.put(5, 1);
        full.remove(480);
        Check.due("a key refused before, as the 48th entry", full.put(5, 2), 1);
        Check.due("its value", full.get(5), 2);
    }

    private static void putOfAHeldKey() {
        for (int key : new int[] {MIN, 0, MAX}) {
            RedBlackMap map = new RedBlackMap();
            map.put(key, 0);
            Check.due("value 0 again, key " + key, map.put(key, 0), 0);
            Check.due("value -1, key " + key, map.put(key, -1), 0);
            Check.due("get(" + key + ")", map.get(key), -1);
            Check.due("the least value, key " + key, map.put(key, MIN), 0);
            Check.due("get(" + key + ") of the least", map.get(key), MIN);
            Check.due("count", map.count(MIN, MAX), 1);
            map.jump(0);
            map.put(key, 5);
            Check.due("the cursor at the entry stays, key " + key, map.next(), 0);
        }
    }

    private static void putOfAHeldKeyWhenFull() {
        for (int place = 0; place < CAPACITY; place++) {
            int key = (place + 1) * 10;
            RedBlackMap map = Maps.tens(CAPACITY);
            TreeMap<Integer, Integer> entries = Maps.tensEntries(CAPACITY);
            entries.put(key, -3);
            map.jump(24);
            Check.due("put(" + key + ")", map.put(key, -3), 0);
            Maps.dueState("put(" + key + ")", map, entries, 24);
        }
    }

    private static void putRefusedWhenFull() {
        TreeMap<Integer, Integer> entries = Maps.tensEntries(CAPACITY);
        for (int key : new int[] {MIN, 0, 9, 11, 245, 479, 481, MAX}) {
            for (int place : new int[] {0, 1, 24, 46, 47, 48}) {
                RedBlackMap map = Maps.tens(CAPACITY);
                map.jump(place);
                String when = "put(" + key + ") at place " + place;
                Check.due(when, map.put(key, 9), -1);
                Check.due(when + " again", map.put(key, 9), -1);
                Check.due(when + ", get", map.get(key), 0);
                Check.due(when + ", place", map.place(key), -1);
                Maps.dueState(when, map, entries, place);
            }
        }
    }

    private static void removeDownToNone() {
        for (int step : new int[] {1, 47, 5, 25}) {
            RedBlackMap map = Maps.tens(CAPACITY);
            map.jump(0);
            for (int i = 0; i < CAPACITY; i++) {
                int key = (i * step % CAPACITY + 1) * 10;
                Check.due("remove(" + key + ") in steps of " + step, map.remove(key), 1);
                Check.due("get(" + key + ") in steps of " + step, map.get(key), 0);
                Check.due("count", map.count(MIN, MAX), CAPACITY - 1 - i);
            }
            Maps.dueState("all removed in steps of " + step, map, new TreeMap<>(), 0);
        }
    }

    private static void removeOfAKeyThatIsNotHeld() {
        Check.due("empty, remove(0)", new RedBlackMap().remove(0), 0);
        Check.due("empty, remove(least)", new RedBlackMap().remove(MIN), 0);
        for (int key : new int[] {MIN, -10, 0, 9, 11, 245, 479, 481, MAX}) {
            RedBlackMap map = Maps.tens(CAPACITY);
            map.jump(24);
            Check.due("full, remove(" + key + ")", map.remove(key), 0);
            Maps.dueState("full, remove(" + key + ")", map, Maps.tensEntries(CAPACITY), 24);
        }
        RedBlackMap map = Maps.tens(1);
        map.remove(10);
        Check.due("the only key, removed before", map.remove(10), 0);
        Maps.dueState("the only key, removed twice", map, new TreeMap<>(), 0);
        RedBlackMap last = Maps.tens(3);
        last.remove(30);
        Check.due("the last key, removed before", last.remove(30), 0);
        Maps.dueState("the last key, removed twice", last, Maps.tensEntries(2), 2);
    }

    private static void getOfAKeyThatIsNotHeld() {
        Check.due("empty, get(0)", new RedBlackMap().get(0), 0);
        Check.due("empty, get(least)", new RedBlackMap().get(MIN), 0);
        Check.due("empty, get(greatest)", new RedBlackMap().get(MAX), 0);
        RedBlackMap map = Maps.tens(CAPACITY);
        for (int key : new int[] {MIN, -10, 0, 9, 11, 245, 479, 481, MAX}) {
            Check.due("full, get(" + key + ")", map.get(key), 0);
        }
        map.remove(480);
        Check.due("the last key, removed", map.get(480), 0);
        map.remove(10);
        Check.due("the first key, removed", map.get(10), 0);
        map.removeAll(MIN, MAX);
        Check.due("a key removed with all others", map.get(240), 0);
        map.put(0, 6);
        Check.due("key 0, held", map.get(0), 6);
        map.put(0, 0);
        Check.due("key 0, held with value 0", map.get(0), 0);
        Check.due("which is an entry still", map.place(0), 0);
    }

    private static void placeOfAKeyThatIsNotHeld() {
        Check.due("empty, place(0)", new RedBlackMap().place(0), -1);
        Check.due("empty, place(least)", new RedBlackMap().place(MIN), -1);
        Check.due("empty, place(greatest)", new RedBlackMap().place(MAX), -1);
        RedBlackMap map = Maps.tens(CAPACITY);
        for (int key : new int[] {MIN, -10, 0, 9, 11, 245, 479, 481, MAX}) {
            Check.due("full, place(" + key + ")", map.place(key), -1);
        }
        map.remove(480);
        Check.due("the last key, removed", map.place(480), -1);
        map.remove(10);
        Check.due("the first key, removed", map.place(10), -1);
        map.removeAll(MIN, MAX);
        Check.due("a key removed with all others", map.place(240), -1);
    }

    private static void countIncludesBothEnds() {
        RedBlackMap map = Maps.tens(CAPACITY);
        Check.due("all, to the keys at both ends", map.count(10, 480), 48);
        Check.due("low one above the first", map.count(11, 480), 47);
        Check.due("high one below the last", map.count(10, 479), 47);
        Check.due("low is high, held", map.count(240, 240), 1);
        Check.due("low is high, the first", map.count(10, 10), 1);
        Check.due("low is high, the last", map.count(480, 480), 1);
        Check.due("one key and the next", map.count(240, 250), 2);
        Check.due("wider than both ends by one", map.count(9, 481), 48);
    }

    private static void countOfNone() {
        Check.due("empty", new RedBlackMap().count(MIN, MAX), 0);
        Check.due("empty, one key", new RedBlackMap().count(0, 0), 0);
        RedBlackMap map = Maps.tens(CAPACITY);
        Check.due("between two keys", map.count(241, 249), 0);
        Check.due("low is high, not held", map.count(245, 245), 0);
        Check.due("below all", map.count(MIN, 9), 0);
        Check.due("above all", map.count(481, MAX), 0);
        Check.due("low above high", map.count(250, 240), 0);
        Check.due("low above high by one, high held", map.count(241, 240), 0);
        Check.due("low above high by one, low held", map.count(240, 239), 0);
        Check.due("the last to the first", map.count(480, 10), 0);
        Check.due("the greatest int to the least", map.count(MAX, MIN), 0);
    }

    private static void countUpToTheGreatestInt() {
        RedBlackMap map = Maps.tens(CAPACITY - 2);
        map.put(MIN, 1);
        map.put(MAX, 1);
        Check.due("every int", map.count(MIN, MAX), 48);
        Check.due("all but the greatest", map.count(MIN, MAX - 1), 47);
        Check.due("all but the least", map.count(MIN + 1, MAX), 47);
        Check.due("the greatest alone", map.count(MAX, MAX), 1);
        Check.due("the least alone", map.count(MIN, MIN), 1);
        Check.due("the greatest to the least", map.count(MAX, MIN), 0);
    }

    private static void sumIncludesBothEnds() {
        RedBlackMap map = Maps.tens(CAPACITY);
        Check.due("all, to the keys at both ends", map.sum(10, 480), 1176000);
        Check.due("low one above the first", map.sum(11, 480), 1175000);
        Check.due("high one below the last", map.sum(10, 479), 1128000);
        Check.due("low is high, held", map.sum(240, 240), 24000);
        Check.due("low is high, the first", map.sum(10, 10), 1000);
        Check.due("low is high, the last", map.sum(480, 480), 48000);
        Check.due("one key and the next", map.sum(240, 250), 49000);
        map.removeAll(11, 479);
        map.put(MIN, 3);
        map.put(MAX, 4);
        Check.due("every int", map.sum(MIN, MAX), 49007);
        Check.due("all but the greatest", map.sum(MIN, MAX - 1), 49003);
        Check.due("all but the least", map.sum(MIN + 1, MAX), 49004);
        Check.due("the greatest alone", map.sum(MAX, MAX), 4);
        Check.due("the least alone", map.sum(MIN, MIN), 3);
    }

    private static void sumOfNone() {
        Check.due("empty", new RedBlackMap().sum(MIN, MAX), 0);
        Check.due("empty, one key", new RedBlackMap().sum(0, 0), 0);
        RedBlackMap map = Maps.tens(CAPACITY);
        Check.due("between two keys", map.sum(241, 249), 0);
        Check.due("low is high, not held", map.sum(245, 245), 0);
        Check.due("below all", map.sum(MIN, 9), 0);
        Check.due("above all", map.sum(481, MAX), 0);
        Check.due("low above high", map.sum(250, 240), 0);
        Check.due("low above high by one, high held", map.sum(241, 240), 0);
        Check.due("low above high by one, low held", map.sum(240, 239), 0);
        Check.due("the last to the first", map.sum(480, 10), 0);
        Check.due("the greatest int to the least", map.sum(MAX, MIN), 0);
        map.removeAll(MIN, MAX);
        Check.due("all removed", map.sum(MIN, MAX), 0);
    }

    private static void sumBeyondAnInt() {
        RedBlackMap two = new RedBlackMap();
        two.put(1, MAX);
        two.put(2, 1);
        Check.due("one above the greatest int", two.sum(1, 2), 2147483648L);
        two.put(1, MIN);
        two.put(2, -1);
        Check.due("one below the least int", two.sum(1, 2), -2147483649L);
        two.put(2, MAX);
        Check.due("the least and the greatest int", two.sum(1, 2), -1);

        RedBlackMap great = new RedBlackMap();
        RedBlackMap small = new RedBlackMap();
        for (int i = 0; i < CAPACITY; i++) {
            great.put(i, MAX);
            small.put(i, MIN);
        }
        Check.due("48 times the greatest int", great.sum(MIN, MAX), 103079215056L);
        Check.due("48 times the least int", small.sum(MIN, MAX), -103079215104L);
        great.jump(0);
        great.set(MIN);
        Check.due("one of them set to the least", great.sum(MIN, MAX), 98784247761L);
        great.remove(47);
        Check.due("another removed", great.sum(MIN, MAX), 96636764114L);
    }

    private static void removeAllIncludesBothEnds() {
        dueRemoveAll(20, 40, 3, 10, 50);
        dueRemoveAll(21, 40, 2, 10, 20, 50);
        dueRemoveAll(20, 39, 2, 10, 40, 50);
        dueRemoveAll(21, 39, 1, 10, 20, 40, 50);
        dueRemoveAll(30, 30, 1, 10, 20, 40, 50);
        dueRemoveAll(10, 10, 1, 20, 30, 40, 50);
        dueRemoveAll(50, 50, 1, 10, 20, 30, 40);
        dueRemoveAll(MIN, 40, 4, 50);
        dueRemoveAll(20, MAX, 4, 10);
        dueRemoveAll(MIN, 10, 1, 20, 30, 40, 50);
        dueRemoveAll(50, MAX, 1, 10, 20, 30, 40);

        RedBlackMap map = new RedBlackMap();
        map.put(MIN, 1);
        map.put(0, 2);
        map.put(MAX, 3);
        Check.due("all but the extremes", map.removeAll(MIN + 1, MAX - 1), 1);
        Check.due("the greatest alone", map.removeAll(MAX, MAX), 1);
        Check.due("the least alone", map.removeAll(MIN, MIN), 1);
        Maps.dueState("none is left", map, new TreeMap<>(), 0);
    }

    /** From keys 10 to 50, with the cursor at each place and at the end. */
    private static void dueRemoveAll(int low, int high, int removed, int... left) {
        TreeMap<Integer, Integer> entries = new TreeMap<>();
        for (int key : left) {
            entries.put(key, key * 100);
        }
        for (int place = 0; place <= 5; place++) {
            RedBlackMap map = Maps.tens(5);
            map.jump(place);
            String when = "at place " + place + ", removeAll(" + low + ", " + high + ")";
            Check.due(when, map.removeAll(low, high), removed);
            int at = (place + 1) * 10;
            Maps.dueState(when, map, entries, place == 5 ? left.length
                    : entries.headMap(at).size());
        }
    }

    private static void removeAllOfNone() {
        Check.due("empty", new RedBlackMap().removeAll(MIN, MAX), 0);
        Check.due("empty, one key", new RedBlackMap().removeAll(0, 0), 0);
        dueNoneRemoved(241, 249);
        dueNoneRemoved(245, 245);
        dueNoneRemoved(MIN, 9);
        dueNoneRemoved(481, MAX);
        dueNoneRemoved(250, 240);
        dueNoneRemoved(241, 240);
        dueNoneRemoved(240, 239);
        dueNoneRemoved(480, 10);
        dueNoneRemoved(MAX, MIN);
    }

    private static void dueNoneRemoved(int low, int high) {
        for (int place : new int[] {0, 23, 24, 47, 48}) {
            RedBlackMap map = Maps.tens(CAPACITY);
            map.jump(place);
            String when = "at place " + place + ", removeAll(" + low + ", " + high + ")";
            Check.due(when, map.removeAll(low, high), 0);
            Maps.dueState(when, map, Maps.tensEntries(CAPACITY), place);
        }
    }

    private static void removeAllOfEveryEntry() {
        for (int place = 0; place <= CAPACITY; place++) {
            RedBlackMap map = Maps.tens(CAPACITY);
            map.jump(place);
            Check.due("every int", map.removeAll(MIN, MAX), 48);
            Check.due("every int again", map.removeAll(MIN, MAX), 0);
            Maps.dueState("all removed, at place " + place, map, new TreeMap<>(), 0);
            for (int i = 1; i <= CAPACITY; i++) {
                Check.due("room for entry " + i, map.put(i * 10, i * 1000), 1);
            }
            Check.due("no room for entry 49", map.put(0, 0), -1);
            Maps.dueState("full again", map, Maps.tensEntries(CAPACITY), CAPACITY);
        }
    }

    private static void seekToAnEntry() {
        TreeMap<Integer, Integer> entries = Maps.tensEntries(CAPACITY);
        for (int place = 0; place < CAPACITY; place++) {
            int key = (place + 1) * 10;
            dueSeek(key, place, entries);
            dueSeek(key - 1, place, entries);
            dueSeek(key - 9, place, entries);
        }
        dueSeek(MIN, 0, entries);
        dueSeek(0, 0, entries);

        RedBlackMap map = new RedBlackMap();
        map.put(MAX, 1);
        map.put(MIN, 2);
        Check.due("seek of the least int", map.seek(MIN), 0);
        Check.due("key()", map.key(), MIN);
        Check.due("seek of the least int but one", map.seek(MIN + 1), 1);
        Check.due("key()", map.key(), MAX);
        map.jump(0);
        Check.due("seek of the greatest int", map.seek(MAX), 1);
        Check.due("key()", map.key(), MAX);
    }

    /** On a full object, from the end and from an entry. */
    private static void dueSeek(int key, int place, TreeMap<Integer, Integer> entries) {
        RedBlackMap map = Maps.tens(CAPACITY);
        Check.due("seek(" + key + ")", map.seek(key), place);
        map.jump(30);
        Check.due("seek(" + key + ") from place 30", map.seek(key), place);
        Maps.dueState("seek(" + key + ")", map, entries, place);
    }

    private static void seekToTheEnd() {
        for (int key : new int[] {MIN, 0, MAX}) {
            RedBlackMap map = new RedBlackMap();
            map.seek(key);
            Maps.dueState("empty, seek(" + key + ")", map, new TreeMap<>(), 0);
        }
        for (int n : new int[] {1, 2, CAPACITY - 1, CAPACITY}) {
            for (int key : new int[] {n * 10 + 1, MAX}) {
                RedBlackMap map = Maps.tens(n);
                map.jump(0);
                map.seek(key);
                Maps.dueState(n + " entries, seek(" + key + ")", map, Maps.tensEntries(n), n);
            }
        }
        RedBlackMap map = Maps.tens(5);
        map.jump(0);
        map.remove(50);
        map.seek(50);
        Maps.dueState("the last key, removed", map, Maps.tensEntries(4), 4);
    }

    private static void seekToTheEndAnswersTheNumberOfEntries() {
        for (int n = 0; n <= CAPACITY; n++) {
            RedBlackMap map = Maps.tens(n);
            Check.due(n + " entries, just above the last", map.seek(n * 10 + 1), n);
            Check.due(n + " entries, the greatest int", map.seek(MAX), n);
            map.jump(0);
            Check.due(n + " entries, from the first", map.seek(MAX), n);
            map.remove(n * 10);
            Check.due("the last of " + n + ", removed", map.seek(n * 10), n == 0 ? 0 : n - 1);
        }
        Check.due("empty, the least int", new RedBlackMap().seek(MIN), 0);
    }

    private static void jumpToAnEntry() {
        for (int n : new int[] {1, 2, CAPACITY - 1, CAPACITY}) {
            for (int place : new int[] {0, n / 2, n - 1}) {
                RedBlackMap map = Maps.tens(n);
                map.jump(place);
                String when = n + " entries, jump(" + place + ")";
                Maps.dueState(when, map, Maps.tensEntries(n), place);
            }
        }
    }

    private static void jumpToTheEnd() {
        for (int n : new int[] {0, 1, 2, CAPACITY - 1, CAPACITY}) {
            for (int place : placesOfNone(n)) {
                RedBlackMap map = Maps.tens(n);
                map.jump(0);
                map.jump(place);
                String when = n + " entries, jump(" + place + ")";
                Maps.dueState(when, map, Maps.tensEntries(n), n);
            }
        }
        RedBlackMap map = Maps.tens(5);
        map.jump(0);
        map.remove(50);
        map.jump(4);
        Maps.dueState("a place that was the last one's", map, Maps.tensEntries(4), 4);
    }

    private static void jumpTellsAnEntryFromTheEnd() {
        for (int n = 0; n <= CAPACITY; n++) {
            RedBlackMap map = Maps.tens(n);
            for (int place = 0; place < n; place++) {
                Check.due(n + " entries, jump(" + place + ")", map.jump(place), 1);
            }
            for (int place : placesOfNone(n)) {
                Check.due(n + " entries, jump(" + place + ")", map.jump(place), 0);
                Check.due(n + " entries, jump(" + place + ") again", map.jump(place), 0);
            }
            map.remove(n * 10);
            Check.due("the place of the last of " + n + ", removed", map.jump(n - 1), 0);
        }
    }

    private static int[] placesOfNone(int n) {
        return new int[] {n, n + 1, 48, 49, 1000, MAX - 1, MAX, -1, -2, -48, MIN};
    }

    private static void nextFromTheLastEntry() {
        for (int n : new int[] {1, 2, CAPACITY - 1, CAPACITY}) {
            RedBlackMap map = Maps.tens(n);
            map.jump(n - 1);
            map.next();
            Maps.dueState(n + " entries, next() to the end", map, Maps.tensEntries(n), n);
        }
        RedBlackMap map = Maps.tens(3);
        map.jump(1);
        map.remove(30);
        map.next();
        Maps.dueState("from an entry that became the last", map, Maps.tensEntries(2), 2);
    }

    private static void nextTellsAnEntryFromTheEnd() {
        for (int n = 1; n <= CAPACITY; n++) {
            RedBlackMap map = Maps.tens(n);
            map.jump(0);
            for (int place = 1; place < n; place++) {
                Check.due(n + " entries, next() to place " + place, map.next(), 1);
            }
            Check.due(n + " entries, next() to the end", map.next(), 0);
        }
        RedBlackMap map = Maps.tens(3);
        map.jump(1);
        map.remove(30);
        Check.due("next() from an entry that became the last", map.next(), 0);
        map.jump(1);
        map.put(MAX, 1);
        Check.due("next() from an entry that is the last no more", map.next(), 1);
    }

    private static void nextAtTheEnd() {
        for (int n : new int[] {0, 1, 2, CAPACITY - 1, CAPACITY}) {
            RedBlackMap map = Maps.tens(n);
            Check.due(n + " entries, next() at the end", map.next(), -1);
            Check.due(n + " entries, next() at the end again", map.next(), -1);
            Check.due(n + " entries, next() at the end once more", map.next(), -1);
            Maps.dueState(n + " entries, next() at the end", map, Maps.tensEntries(n), n);
        }
        RedBlackMap map = Maps.tens(1);
        map.jump(0);
        map.remove(10);
        Check.due("next() at the end to which a removal led", map.next(), -1);
    }

    private static void backFromTheEnd() {
        for (int n : new int[] {1, 2, CAPACITY - 1, CAPACITY}) {
            RedBlackMap map = Maps.tens(n);
            Check.due(n + " entries, back() from the end", map.back(), 1);
            Maps.dueState(n + " entries, back() from the end", map, Maps.tensEntries(n), n - 1);
        }
        RedBlackMap map = Maps.tens(3);
        map.jump(2);
        map.remove(30);
        Check.due("back() from the end to which a removal led", map.back(), 1);
        Maps.dueState("back() after a removal", map, Maps.tensEntries(2), 1);
    }

    private static void backWithNoneBefore() {
        for (int n : new int[] {0, 1, 2, CAPACITY - 1, CAPACITY}) {
            RedBlackMap map = Maps.tens(n);
            map.jump(0);
            Check.due(n + " entries, back() from the first", map.back(), -1);
            Check.due(n + " entries, back() from the first again", map.back(), -1);
            Check.due(n + " entries, back() once more", map.back(), -1);
            Maps.dueState(n + " entries, back() from the first", map, Maps.tensEntries(n), 0);
        }
        RedBlackMap map = Maps.tens(3);
        map.jump(1);
        map.remove(10);
        Check.due("back() from an entry that became the first", map.back(), -1);
        Check.due("key()", map.key(), 20);
        map.removeAll(MIN, MAX);
        Check.due("back() from the end with all removed", map.back(), -1);
    }

    private static void keyAtTheEnd() {
        for (int n : new int[] {0, 1, 2, CAPACITY - 1, CAPACITY}) {
            RedBlackMap map = Maps.tens(n);
            Check.due(n + " entries, key() at the end", map.key(), 0);
            map.jump(0);
            map.jump(n);
            Check.due(n + " entries, key() after jump", map.key(), 0);
            map.back();
            map.next();
            Check.due(n + " entries, key() after next", map.key(), 0);
            map.back();
            map.seek(MAX);
            Check.due(n + " entries, key() after seek", map.key(), 0);
            map.back();
            map.remove(n * 10);
            Check.due(n + " entries, key() after remove", map.key(), 0);
            map.jump(0);
            map.removeAll(MIN, MAX);
            Check.due(n + " entries, key() after removeAll", map.key(), 0);
        }
    }

    private static void keyAtAnEntry() {
        int[] keys = {MIN, -1, 0, 1, MAX};
        RedBlackMap map = new RedBlackMap();
        for (int key : keys) {
            map.put(key, 1);
        }
        for (int place = 0; place < keys.length; place++) {
            map.jump(place);
            Check.due("key() at place " + place, map.key(), keys[place]);
        }
        map.seek(0);
        Check.due("key() is 0 at an entry too", map.key(), 0);
        Check.due("which is not the end", map.set(2), 1);
    }

    private static void setAtAnEntry() {
        for (int place : new int[] {0, 24, 47}) {
            RedBlackMap map = Maps.tens(CAPACITY);
            TreeMap<Integer, Integer> entries = Maps.tensEntries(CAPACITY);
            int key = (place + 1) * 10;
            map.jump(place);
            Check.due("set(greatest) at place " + place, map.set(MAX), key * 100);
            Check.due("set(least) at place " + place, map.set(MIN), MAX);
            Check.due("set(0) at place " + place, map.set(0), MIN);
            Check.due("set(-1) where the value is 0", map.set(-1), 0);
            Check.due("set to the value that it has", map.set(-1), -1);
            entries.put(key, -1);
            Maps.dueState("set at place " + place, map, entries, place);
        }
    }

    private static void setAtTheEnd() {
        for (int n : new int[] {0, 1, 2, CAPACITY - 1, CAPACITY}) {
            RedBlackMap map = Maps.tens(n);
            Check.due(n + " entries, set(7) at the end", map.set(7), 0);
            Check.due(n + " entries, set(8) at the end", map.set(8), 0);
            Maps.dueState(n + " entries, set at the end", map, Maps.tensEntries(n), n);
        }
        RedBlackMap map = Maps.tens(3);
        map.jump(2);
        map.remove(30);
        Check.due("set(7) at the end to which a removal led", map.set(7), 0);
        Maps.dueState("set at the end after a removal", map, Maps.tensEntries(2), 2);
        map.put(30, 3000);
        Check.due("the removed key comes back with its own value", map.get(30), 3000);
    }

    private static void askingChangesNothing() {
        for (int n : new int[] {0, 1, CAPACITY}) {
            for (int place : new int[] {0, n / 2, n}) {
                RedBlackMap map = Maps.tens(n);
                map.jump(place);
                for (int key : new int[] {MIN, 0, 10, 15, 480, MAX}) {
                    map.get(key);
                    map.place(key);
                    map.count(key, MAX);
                    map.count(MAX, key);
                    map.sum(MIN, key);
                    map.sum(key, MIN);
                    map.key();
                }
                Maps.dueState(n + " entries, at place " + place, map, Maps.tensEntries(n), place);
            }
        }
    }
}
