import java.lang.annotation.Retention;
import java.lang.annotation.RetentionPolicy;
import java.lang.reflect.InvocationTargetException;
import java.lang.reflect.Method;
import java.util.ArrayList;
import java.util.Comparator;
import java.util.List;
import java.util.function.Supplier;

/** For each sentence of the document that names a boundary case, a test of its own, with the sentence above it. */
public final class BoundaryTest {
    private static final int LEAST = Integer.MIN_VALUE;
    private static final int GREATEST = Integer.MAX_VALUE;

    // Behind the first six stand numbers that would be a held key if only their low bits were looked at.
    private static final int[] NOT_KEYS = {
        -1, 256, -2, 257, LEAST, GREATEST,
        511, 256 + 17, -256, -256 + 17, 65536, 65536 + 17, LEAST + 17, GREATEST - 255 + 17};
    // Behind the first six stand numbers that would be a map if low bits or a wrapped product were looked at.
    private static final int[] NOT_MAPS = {
        -2, 7, -3, 8, LEAST, GREATEST,
        9, 15, -7, -8, 255, 256, 258, 65538, LEAST + 2, GREATEST - 5, 1 << 24, (1 << 24) - 1, -(1 << 24)};
    private static final int[] VALUES = {
        0, 1, -1, 255, 256, 257, 65535, 65536, 65537, LEAST, LEAST + 1, GREATEST, GREATEST - 1};

    private static final int MOST_CALLS = 512;
    private static final int[] SIZES = {0, 1, 2, 3, 14, 15, 16};

    private static String sentence = "";
    private static String lastCall = "";
    private static int wrong = 0;

    /** What the document says under the promise; 0 stands for "What it is" and "Terms". */
    @Retention(RetentionPolicy.RUNTIME)
    private @interface Says {
        int promise();

        String value();
    }

    public static void main(String[] args) throws IllegalAccessException, InvocationTargetException {
        List<Method> tests = tests();
        for (Method test : tests) {
            Says says = test.getAnnotation(Says.class);
            sentence = "promise " + says.promise() + ", \"" + says.value() + "\" (" + test.getName() + ")";
            test.invoke(null);
        }
        System.out.println(tests.size() + " tests of boundary sentences");
        System.out.println(wrong == 0 ? "all answers are as due" : wrong + " answers are not as due");
        if (wrong != 0) {
            System.exit(1);
        }
    }

    // By the annotation rather than by a list, so that no test can be left out of the run.
    private static List<Method> tests() {
        List<Method> tests = new ArrayList<>();
        for (Method method : BoundaryTest.class.getDeclaredMethods()) {
            if (method.isAnnotationPresent(Says.class)) {
                tests.add(method);
            }
        }
        Comparator<Method> byPromise = Comparator.comparingInt(test -> test.getAnnotation(Says.class).promise());
        tests.sort(byPromise.thenComparing(Method::getName));
        return tests;
    }

    private static void due(int got, int want) {
        if (got != want) {
            wrong++;
            System.out.println(sentence + ": " + lastCall + " answered " + got + ", due is " + want);
        }
    }

    /** The call must answer as due and leave all eight maps as they were. */
    private static void dueAndNothingChanged(Asked tree, Supplier<Integer> call, int want) {
        String before = tree.picture();
        due(call.get(), want);
        String called = lastCall;
        String after = tree.picture();
        if (!before.equals(after)) {
            wrong++;
            System.out.println(sentence + ": " + called + " changed\n" + before + "to\n" + after);
        }
    }

    /** A tree that keeps the text of its calls and ends the test at a 513th: nothing is promised about that one. */
    private static final class Asked {
        private final SnapshotTree tree = new SnapshotTree();
        private int calls = 0;

        private void note(String call) {
            calls++;
            lastCall = "call " + calls + ", " + call + ",";
            if (calls > MOST_CALLS) {
                throw new IllegalStateException(sentence + ": the test makes more than 512 calls");
            }
        }

        int put(int key, int value) {
            note("put(" + key + ", " + value + ")");
            return tree.put(key, value);
        }

        int remove(int key) {
            note("remove(" + key + ")");
            return tree.remove(key);
        }

        int commit() {
            note("commit()");
            return tree.commit();
        }

        int restore(int slot) {
            note("restore(" + slot + ")");
            return tree.restore(slot);
        }

        int drop(int slot) {
            note("drop(" + slot + ")");
            return tree.drop(slot);
        }

        int get(int map, int key) {
            note("get(" + map + ", " + key + ")");
            return tree.get(map, key);
        }

        int has(int map, int key) {
            note("has(" + map + ", " + key + ")");
            return tree.has(map, key);
        }

        int size(int map) {
            note("size(" + map + ")");
            return tree.size(map);
        }

        int next(int map, int from) {
            note("next(" + map + ", " + from + ")");
            return tree.next(map, from);
        }

        int nextChange(int a, int b, int from) {
            note("nextChange(" + a + ", " + b + ", " + from + ")");
            return tree.nextChange(a, b, from);
        }

        int changes(int a, int b) {
            note("changes(" + a + ", " + b + ")");
            return tree.changes(a, b);
        }

        /** All eight maps, each with its size and its keys and values. */
        String picture() {
            StringBuilder text = new StringBuilder();
            for (int map = -1; map <= 6; map++) {
                text.append(picture(map));
            }
            return text.toString();
        }

        String picture(int map) {
            StringBuilder text = new StringBuilder("  map " + map + " of size " + size(map) + ":");
            for (int key = next(map, 0); key >= 0 && key <= 255; key = next(map, key + 1)) {
                text.append(" " + key + "=" + get(map, key));
            }
            return text.append("\n").toString();
        }
    }

    /** The keys in the order in which the tests put them: 0, 255, 17, 34, .., 238. */
    private static int key(int place) {
        return place == 0 ? 0 : place == 1 ? 255 : (place - 1) * 17;
    }

    private static int value(int map, int place) {
        return 1000 * (map + 2) + place;
    }

    /** The first keys, as many as told, with the values that the map is to have. */
    private static void putFirst(Asked tree, int count, int map) {
        for (int place = 0; place < count; place++) {
            tree.put(key(place), value(map, place));
        }
    }

    private static Asked holding(int count) {
        Asked tree = new Asked();
        putFirst(tree, count, -1);
        return tree;
    }

    /** No slot free, with maps of 0, 1, 2, 3, 14, 15 and 16 keys; the working map holds 16. */
    private static Asked full() {
        Asked tree = new Asked();
        for (int slot = 0; slot <= 6; slot++) {
            putFirst(tree, SIZES[slot], slot);
            tree.commit();
        }
        putFirst(tree, 16, -1);
        return tree;
    }

    /** As full, but slots 1, 3 and 5 are dropped and the working map holds 15 keys, without 255. */
    private static Asked halfFree() {
        Asked tree = full();
        tree.drop(1);
        tree.drop(3);
        tree.drop(5);
        tree.remove(255);
        return tree;
    }

    /** 16 keys in slot 0, the neighbour of the working map's number; the working map holds 15 of them. */
    private static Asked committed() {
        Asked tree = holding(16);
        tree.commit();
        tree.remove(255);
        return tree;
    }

    private static List<Supplier<Asked>> states() {
        return List.of(Asked::new, () -> holding(1), BoundaryTest::committed, BoundaryTest::halfFree, BoundaryTest::full);
    }

    /** Numbers that halfFree refuses: free slots and what is no map's number. */
    private static int[] refusedByHalfFree() {
        int[] refused = new int[NOT_MAPS.length + 3];
        System.arraycopy(NOT_MAPS, 0, refused, 3, NOT_MAPS.length);
        refused[0] = 1;
        refused[1] = 3;
        refused[2] = 5;
        return refused;
    }

    private static void dueMap(Asked tree, int map, int size, int valuesOf) {
        due(tree.size(map), size);
        for (int place = 0; place < 16; place++) {
            due(tree.has(map, key(place)), place < size ? 1 : 0);
            due(tree.get(map, key(place)), place < size ? value(valuesOf, place) : 0);
        }
    }

    private static void dueRefused(Asked tree, int map) {
        due(tree.size(map), -1);
        due(tree.has(map, 0), -1);
        due(tree.get(map, 0), 0);
        due(tree.next(map, 0), -1);
        due(tree.nextChange(map, -1, 0), -1);
        due(tree.nextChange(-1, map, 0), -1);
        due(tree.nextChange(map, map, 0), -1);
        due(tree.changes(map, -1), -1);
        due(tree.changes(-1, map), -1);
        due(tree.changes(map, map), -1);
    }

    // What it is, and Terms

    @Says(promise = 0, value = "An object is used for at most 512 calls")
    private static void allCallsOfPutAndRemove() {
        Asked tree = holding(15);
        for (int round = 0; round < 248; round++) {
            due(tree.put(238, round), 16);
            due(tree.remove(238), 15);
        }
        due(tree.put(238, -7), 16);
        due(tree.calls, MOST_CALLS);
        Asked held = new Asked();
        for (int round = 0; round < 511; round++) {
            due(held.put(9, round), 1);
        }
        due(held.get(-1, 9), 510);
        due(held.calls, MOST_CALLS);
    }

    @Says(promise = 0, value = "An object is used for at most 512 calls")
    private static void allCallsOfCommitAndDrop() {
        Asked tree = holding(16);
        for (int round = 0; round < 247; round++) {
            due(tree.commit(), 0);
            due(tree.drop(0), 0);
        }
        due(tree.commit(), 0);
        due(tree.get(0, 255), value(-1, 1));
        due(tree.calls, MOST_CALLS);
    }

    @Says(promise = 0, value = "An object is used for at most 512 calls")
    private static void allCallsOfChangedSnapshots() {
        Asked tree = holding(16);
        for (int round = 0; round < 165; round++) {
            due(tree.put(255, round), 16);
            due(tree.commit(), round % 7);
            due(tree.drop((round + 1) % 7), round < 6 ? -1 : 0);
        }
        due(tree.get(164 % 7, 255), 164);
        due(tree.calls, MOST_CALLS);
    }

    @Says(promise = 0, value = "An object is used for at most 512 calls")
    private static void allCallsOfRestore() {
        Asked tree = new Asked();
        due(tree.commit(), 0);
        putFirst(tree, 16, -1);
        due(tree.commit(), 1);
        for (int round = 0; round < 246; round++) {
            due(tree.restore(0), 0);
            due(tree.restore(1), 16);
        }
        due(tree.changes(-1, 1), 0);
        due(tree.changes(-1, 0), 16);
        due(tree.calls, MOST_CALLS);
    }

    @Says(promise = 0, value = "KEYS are 0 to 255")
    private static void everyKeyCanBeHeld() {
        Asked tree = new Asked();
        for (int key = 0; key <= 255; key++) {
            due(tree.put(key, key), 1);
            due(tree.remove(key), 0);
        }
    }

    @Says(promise = 0, value = "KEYS are 0 to 255")
    private static void everyKeyCanBeRead() {
        for (int key = 0; key <= 255; key++) {
            Asked tree = new Asked();
            tree.put(key, key + 1);
            tree.commit();
            tree.put(key, -key);
            due(tree.get(-1, key), -key);
            due(tree.get(0, key), key + 1);
            due(tree.has(-1, key), 1);
            due(tree.next(-1, 0), key);
            due(tree.next(0, key), key);
            due(tree.next(0, key + 1), 256);
            due(tree.nextChange(-1, 0, 0), key);
            due(tree.nextChange(-1, 0, key), key);
            due(tree.nextChange(-1, 0, key + 1), 256);
            due(tree.changes(-1, 0), 1);
            due(tree.remove(key), 0);
            due(tree.changes(-1, 0), 1);
        }
    }

    @Says(promise = 0, value = "VALUES ints")
    private static void everyKindOfValueIsKept() {
        for (int value : VALUES) {
            Asked tree = new Asked();
            due(tree.put(255, value), 1);
            due(tree.get(-1, 255), value);
            due(tree.commit(), 0);
            due(tree.remove(255), 0);
            due(tree.get(0, 255), value);
            due(tree.restore(0), 1);
            due(tree.get(-1, 255), value);
            due(tree.has(-1, 255), 1);
        }
    }

    @Says(promise = 0, value = "A map holds at most 16 keys, each with a value.")
    private static void noMapHoldsMore() {
        Asked tree = holding(15);
        due(tree.size(-1), 15);
        due(tree.put(238, 5), 16);
        due(tree.put(1, 5), -1);
        due(tree.commit(), 0);
        due(tree.size(0), 16);
        due(tree.remove(0), 15);
        due(tree.restore(0), 16);
        due(tree.put(1, 5), -1);
        due(tree.size(-1), 16);
    }

    @Says(promise = 0, value = "There is the WORKING map (empty at the start)")
    private static void theWorkingMapStartsEmpty() {
        Asked asked = new Asked();
        due(asked.size(-1), 0);
        due(asked.next(-1, 0), 256);
        for (int key = 0; key <= 255; key++) {
            due(asked.has(-1, key), 0);
        }
        Asked got = new Asked();
        for (int key = 0; key <= 255; key++) {
            due(got.get(-1, key), 0);
        }
        Asked removed = new Asked();
        for (int key = 0; key <= 255; key++) {
            due(removed.remove(key), -1);
        }
    }

    @Says(promise = 0, value = "SNAPSHOTS: maps that never change")
    private static void snapshotsNeverChange() {
        Asked tree = full();
        String[] before = new String[7];
        for (int slot = 0; slot <= 6; slot++) {
            before[slot] = tree.picture(slot);
        }
        tree.put(0, -5);
        tree.remove(255);
        tree.put(1, -5);
        tree.drop(0);
        tree.commit();
        tree.restore(6);
        tree.put(255, -6);
        tree.remove(0);
        for (int slot = 1; slot <= 6; slot++) {
            String after = tree.picture(slot);
            if (!before[slot].equals(after)) {
                wrong++;
                System.out.println(sentence + ":\n" + before[slot] + "became\n" + after);
            }
        }
    }

    @Says(promise = 0, value = "maps that never change")
    private static void readersChangeNothing() {
        Asked tree = halfFree();
        dueAndNothingChanged(tree, () -> tree.get(6, 255), value(6, 1));
        Asked asked = halfFree();
        dueAndNothingChanged(asked, () -> asked.has(1, 256), -1);
        Asked counted = halfFree();
        dueAndNothingChanged(counted, () -> counted.size(3), -1);
        Asked walked = halfFree();
        dueAndNothingChanged(walked, () -> walked.next(-1, 239), 256);
        Asked compared = halfFree();
        dueAndNothingChanged(compared, () -> compared.nextChange(5, -1, 0), -1);
        Asked differing = halfFree();
        dueAndNothingChanged(differing, () -> differing.changes(-1, 6), 16);
    }

    @Says(promise = 0, value = "in slots 0 to 6, each of which holds one or is free")
    private static void thereAreSevenSlots() {
        Asked tree = new Asked();
        for (int slot = 0; slot <= 6; slot++) {
            due(tree.put(slot, slot), slot + 1);
            due(tree.commit(), slot);
        }
        due(tree.commit(), -1);
        for (int slot = 0; slot <= 6; slot++) {
            due(tree.size(slot), slot + 1);
            due(tree.drop(slot), 0);
            due(tree.size(slot), -1);
        }
    }

    @Says(promise = 0, value = "(all are free at the start)")
    private static void allSlotsStartFree() {
        for (int slot = 0; slot <= 6; slot++) {
            Asked tree = new Asked();
            dueRefused(tree, slot);
            due(tree.restore(slot), -1);
            due(tree.drop(slot), -1);
            due(tree.commit(), 0);
        }
    }

    @Says(promise = 0, value = "-1 is the working map and 0 to 6 the snapshot in that slot")
    private static void eachNumberNamesItsMap() {
        Asked tree = full();
        dueMap(tree, -1, 16, -1);
        for (int slot = 0; slot <= 6; slot++) {
            dueMap(tree, slot, SIZES[slot], slot);
        }
    }

    @Says(promise = 0, value = "a number that names a free slot, or is not from -1 to 6, is refused")
    private static void otherNumbersAreRefused() {
        for (int map : refusedByHalfFree()) {
            dueRefused(halfFree(), map);
        }
        for (int map : NOT_MAPS) {
            dueRefused(new Asked(), map);
            dueRefused(full(), map);
        }
    }

    // Promise 1: A new object

    @Says(promise = 1, value = "As said above.")
    private static void aNewObjectKnowsNothingOfAnother() {
        Asked first = full();
        Asked second = new Asked();
        String empty = second.picture();
        due(second.put(255, 7), 1);
        due(second.commit(), 0);
        dueMap(first, -1, 16, -1);
        dueMap(first, 0, 0, 0);
        due(first.commit(), -1);
        for (int slot = 0; slot <= 6; slot++) {
            due(first.drop(slot), 0);
        }
        due(second.get(0, 255), 7);
        boolean same = empty.equals(new Asked().picture());
        due(same ? 1 : 0, 1);
    }

    // Promise 2: put

    @Says(promise = 2, value = "The key has the value in the working map.")
    private static void putKeepsTheLastValue() {
        for (int key : new int[] {0, 1, 254, 255}) {
            Asked tree = new Asked();
            due(tree.put(key, 5), 1);
            due(tree.get(-1, key), 5);
            due(tree.put(key, 5), 1);
            due(tree.put(key, 0), 1);
            due(tree.get(-1, key), 0);
            due(tree.has(-1, key), 1);
            due(tree.remove(key), 0);
            due(tree.put(key, -9), 1);
            due(tree.get(-1, key), -9);
        }
    }

    @Says(promise = 2, value = "Answers how many keys the working map holds then")
    private static void putAnswersTheCount() {
        Asked tree = new Asked();
        for (int place = 0; place < 16; place++) {
            due(tree.put(key(place), 1), place + 1);
            due(tree.put(key(place), 2), place + 1);
            due(tree.put(key(0), 3), place + 1);
        }
    }

    @Says(promise = 2, value = "-1, and changes nothing, if key is not from 0 to 255")
    private static void putOfWrongKeys() {
        for (Supplier<Asked> state : states()) {
            for (int key : NOT_KEYS) {
                Asked tree = state.get();
                dueAndNothingChanged(tree, () -> tree.put(key, 77), -1);
            }
        }
    }

    @Says(promise = 2, value = "-1, and changes nothing, if key is not from 0 to 255")
    private static void putOfWrongKeysTakesNoRoom() {
        Asked tree = holding(15);
        for (int key : NOT_KEYS) {
            due(tree.put(key, 77), -1);
        }
        due(tree.put(238, 1), 16);
        due(tree.commit(), 0);
        due(tree.size(0), 16);
        due(tree.get(0, 0), value(-1, 0));
        due(tree.get(0, 255), value(-1, 1));
    }

    @Says(promise = 2, value = "-1, and changes nothing, if .. the key is not held and 16 are")
    private static void putOfSeventeenthKey() {
        for (int key : new int[] {1, 16, 18, 128, 254}) {
            Asked tree = full();
            dueAndNothingChanged(tree, () -> tree.put(key, 77), -1);
            Asked alone = holding(16);
            dueAndNothingChanged(alone, () -> alone.put(key, 77), -1);
        }
        Asked withoutEnds = new Asked();
        for (int key = 100; key < 116; key++) {
            due(withoutEnds.put(key, key), key - 99);
        }
        dueAndNothingChanged(withoutEnds, () -> withoutEnds.put(0, 77), -1);
        dueAndNothingChanged(withoutEnds, () -> withoutEnds.put(255, 77), -1);
    }

    @Says(promise = 2, value = "-1, and changes nothing, if .. the key is not held and 16 are")
    private static void putOfRefusedKeyAfterARemove() {
        Asked tree = holding(16);
        due(tree.put(100, 77), -1);
        due(tree.remove(0), 15);
        due(tree.has(-1, 100), 0);
        due(tree.put(100, 78), 16);
        due(tree.get(-1, 100), 78);
        due(tree.put(0, 77), -1);
        due(tree.get(-1, 0), 0);
    }

    @Says(promise = 2, value = "-1, and changes nothing, if .. the key is not held and 16 are")
    private static void putOfHeldKeyAmongSixteen() {
        Asked tree = full();
        for (int place = 0; place < 16; place++) {
            due(tree.put(key(place), -place), 16);
        }
        for (int place = 0; place < 16; place++) {
            due(tree.get(-1, key(place)), -place);
        }
    }

    // Promise 3: remove

    @Says(promise = 3, value = "The key is not held in the working map any more.")
    private static void removedKeysAreNotHeld() {
        for (int place = 0; place < 16; place++) {
            int key = key(place);
            Asked tree = holding(16);
            due(tree.commit(), 0);
            due(tree.remove(key), 15);
            due(tree.has(-1, key), 0);
            due(tree.get(-1, key), 0);
            due(tree.next(-1, key) == key ? 1 : 0, 0);
            due(tree.changes(-1, 0), 1);
            due(tree.nextChange(-1, 0, 0), key);
            due(tree.has(0, key), 1);
            due(tree.get(0, key), value(-1, place));
        }
    }

    @Says(promise = 3, value = "Answers how many keys it holds then")
    private static void removeAnswersTheCount() {
        Asked tree = holding(16);
        for (int place = 15; place >= 0; place--) {
            due(tree.remove(key(place)), place);
            due(tree.size(-1), place);
        }
        due(tree.next(-1, 0), 256);
        due(tree.put(0, 1), 1);
    }

    @Says(promise = 3, value = "-1, and changes nothing, if the key is not held.")
    private static void removeOfKeysThatAreNoKeys() {
        for (Supplier<Asked> state : states()) {
            for (int key : NOT_KEYS) {
                Asked tree = state.get();
                dueAndNothingChanged(tree, () -> tree.remove(key), -1);
            }
        }
    }

    @Says(promise = 3, value = "-1, and changes nothing, if the key is not held.")
    private static void removeOfKeysNotHeld() {
        for (Supplier<Asked> state : states()) {
            for (int key : new int[] {1, 16, 18, 128, 254}) {
                Asked tree = state.get();
                dueAndNothingChanged(tree, () -> tree.remove(key), -1);
            }
        }
        Asked empty = new Asked();
        dueAndNothingChanged(empty, () -> empty.remove(0), -1);
        dueAndNothingChanged(empty, () -> empty.remove(255), -1);
    }

    @Says(promise = 3, value = "-1, and changes nothing, if the key is not held.")
    private static void removeOfKeysRemovedBefore() {
        Asked tree = halfFree();
        dueAndNothingChanged(tree, () -> tree.remove(255), -1);
        Asked last = holding(1);
        due(last.commit(), 0);
        due(last.remove(0), 0);
        dueAndNothingChanged(last, () -> last.remove(0), -1);
    }

    // Promise 4: commit

    @Says(promise = 4, value = "A snapshot of the working map goes into the least free slot. Answers the slot")
    private static void commitOfEveryPatternOfFreeSlots() {
        for (int free = 0; free < 128; free++) {
            Asked tree = full();
            for (int slot = 6; slot >= 0; slot--) {
                if ((free >> slot & 1) == 1) {
                    due(tree.drop(slot), 0);
                }
            }
            int least = free == 0 ? -1 : Integer.numberOfTrailingZeros(free);
            due(tree.commit(), least);
            for (int slot = 0; slot <= 6; slot++) {
                boolean isFree = slot != least && (free >> slot & 1) == 1;
                due(tree.size(slot), isFree ? -1 : slot == least ? 16 : SIZES[slot]);
            }
        }
    }

    @Says(promise = 4, value = "A snapshot of the working map goes into the least free slot. Answers the slot")
    private static void commitOfEverySize() {
        for (int size = 0; size <= 16; size++) {
            Asked tree = holding(size);
            due(tree.commit(), 0);
            dueMap(tree, 0, size, -1);
            dueMap(tree, -1, size, -1);
            due(tree.changes(-1, 0), 0);
        }
    }

    @Says(promise = 4, value = "A snapshot of the working map goes into the least free slot. Answers the slot")
    private static void commitKeepsNothingOfTheDroppedSnapshot() {
        for (int slot = 0; slot <= 6; slot++) {
            Asked tree = full();
            for (int place = 0; place < 16; place++) {
                tree.remove(key(place));
            }
            tree.put(3, 33);
            due(tree.drop(slot), 0);
            due(tree.commit(), slot);
            due(tree.size(slot), 1);
            due(tree.next(slot, 0), 3);
            due(tree.next(slot, 4), 256);
            due(tree.get(slot, 3), 33);
            due(tree.get(slot, 0), 0);
            due(tree.changes(slot, -1), 0);
        }
    }

    @Says(promise = 4, value = "-1, and changes nothing, if none is free.")
    private static void commitWithoutFreeSlot() {
        Asked tree = full();
        dueAndNothingChanged(tree, tree::commit, -1);
        Asked changed = full();
        changed.put(0, -5);
        changed.remove(255);
        dueAndNothingChanged(changed, changed::commit, -1);
        Asked empty = new Asked();
        for (int slot = 0; slot <= 6; slot++) {
            due(empty.commit(), slot);
        }
        dueAndNothingChanged(empty, empty::commit, -1);
        dueAndNothingChanged(empty, empty::commit, -1);
    }

    // Promise 5: restore

    @Says(promise = 5, value = "The working map becomes what the snapshot in the slot is.")
    private static void restoreOfEverySlot() {
        for (int slot = 0; slot <= 6; slot++) {
            Asked tree = full();
            due(tree.restore(slot), SIZES[slot]);
            dueMap(tree, -1, SIZES[slot], slot);
            dueMap(tree, slot, SIZES[slot], slot);
            due(tree.changes(-1, slot), 0);
            due(tree.put(0, -5), Math.max(SIZES[slot], 1));
            due(tree.changes(-1, slot), 1);
            due(tree.restore(slot), SIZES[slot]);
            due(tree.changes(-1, slot), 0);
        }
    }

    @Says(promise = 5, value = "Answers how many keys it holds then")
    private static void restoreCountsOnFromTheSnapshot() {
        Asked tree = full();
        due(tree.restore(0), 0);
        due(tree.remove(0), -1);
        due(tree.put(100, 1), 1);
        due(tree.restore(5), 15);
        due(tree.put(100, 1), 16);
        due(tree.put(101, 1), -1);
        due(tree.restore(6), 16);
        due(tree.put(100, 1), -1);
        due(tree.remove(0), 15);
        due(tree.restore(1), 1);
        due(tree.remove(0), 0);
    }

    @Says(promise = 5, value = "-1, and changes nothing, if the slot is free")
    private static void restoreOfFreeSlots() {
        for (int slot : new int[] {1, 3, 5}) {
            Asked tree = halfFree();
            dueAndNothingChanged(tree, () -> tree.restore(slot), -1);
        }
        for (int slot = 0; slot <= 6; slot++) {
            int free = slot;
            Asked empty = new Asked();
            dueAndNothingChanged(empty, () -> empty.restore(free), -1);
            Asked tree = holding(16);
            dueAndNothingChanged(tree, () -> tree.restore(free), -1);
        }
    }

    @Says(promise = 5, value = "-1, and changes nothing, if the slot is .. not from 0 to 6.")
    private static void restoreOfWrongSlots() {
        for (Supplier<Asked> state : states()) {
            for (int slot : NOT_MAPS) {
                Asked tree = state.get();
                dueAndNothingChanged(tree, () -> tree.restore(slot), -1);
            }
            Asked tree = state.get();
            dueAndNothingChanged(tree, () -> tree.restore(-1), -1);
        }
    }

    // Promise 6: drop

    @Says(promise = 6, value = "The slot becomes free. Answers 0")
    private static void dropOfEverySlot() {
        for (int slot = 0; slot <= 6; slot++) {
            Asked tree = full();
            due(tree.drop(slot), 0);
            dueRefused(tree, slot);
            due(tree.restore(slot), -1);
            due(tree.commit(), slot);
            due(tree.changes(-1, slot), 0);
        }
    }

    @Says(promise = 6, value = "The slot becomes free. Answers 0")
    private static void dropLeavesTheOtherMaps() {
        for (int slot = 0; slot <= 6; slot++) {
            Asked tree = full();
            due(tree.restore(slot), SIZES[slot]);
            due(tree.drop(slot), 0);
            dueMap(tree, -1, SIZES[slot], slot);
            for (int other = 0; other <= 6; other++) {
                if (other != slot) {
                    dueMap(tree, other, SIZES[other], other);
                }
            }
        }
    }

    @Says(promise = 6, value = "-1 if it is free")
    private static void dropOfFreeSlots() {
        for (int slot : new int[] {1, 3, 5}) {
            Asked tree = halfFree();
            dueAndNothingChanged(tree, () -> tree.drop(slot), -1);
            due(tree.commit(), 1);
        }
        for (int slot = 0; slot <= 6; slot++) {
            int free = slot;
            Asked tree = holding(16);
            dueAndNothingChanged(tree, () -> tree.drop(free), -1);
            due(tree.commit(), 0);
        }
    }

    @Says(promise = 6, value = "-1 if it is .. not from 0 to 6.")
    private static void dropOfWrongSlots() {
        for (Supplier<Asked> state : states()) {
            for (int slot : NOT_MAPS) {
                Asked tree = state.get();
                dueAndNothingChanged(tree, () -> tree.drop(slot), -1);
            }
            Asked tree = state.get();
            dueAndNothingChanged(tree, () -> tree.drop(-1), -1);
        }
    }

    // Promise 7: get

    @Says(promise = 7, value = "0 if it is not held")
    private static void getOfKeysNotHeld() {
        for (int key : new int[] {1, 16, 18, 128, 254}) {
            Asked tree = full();
            for (int map = -1; map <= 6; map++) {
                due(tree.get(map, key), 0);
            }
        }
        Asked removed = halfFree();
        due(removed.get(-1, 255), 0);
        due(removed.get(0, 0), 0);
        due(removed.get(0, 255), 0);
        due(removed.get(6, 255), value(6, 1));
        removed.commit();
        due(removed.get(1, 255), 0);
    }

    @Says(promise = 7, value = "0 if it is not held")
    private static void getOfKeysThatAreNoKeys() {
        for (int key : NOT_KEYS) {
            Asked tree = full();
            for (int map = -1; map <= 6; map++) {
                due(tree.get(map, key), 0);
            }
        }
    }

    @Says(promise = 7, value = "0 if .. the map is refused")
    private static void getOfRefusedMaps() {
        for (int map : refusedByHalfFree()) {
            Asked tree = halfFree();
            for (int key : new int[] {0, 255, 1, -1, 256, LEAST, GREATEST}) {
                due(tree.get(map, key), 0);
            }
        }
    }

    // Promise 8: has

    @Says(promise = 8, value = "1 if the map holds the key, 0 if not")
    private static void hasAroundTheEndsOfTheKeys() {
        Asked tree = new Asked();
        tree.put(0, 0);
        tree.put(255, 0);
        tree.commit();
        tree.remove(0);
        tree.remove(255);
        tree.put(1, 0);
        tree.put(254, 0);
        int[] keys = {0, 1, 254, 255};
        int[] working = {0, 1, 1, 0};
        for (int place = 0; place < 4; place++) {
            due(tree.has(-1, keys[place]), working[place]);
            due(tree.has(0, keys[place]), 1 - working[place]);
        }
    }

    @Says(promise = 8, value = "0 .. (also if key is not from 0 to 255)")
    private static void hasOfKeysThatAreNoKeys() {
        for (int key : NOT_KEYS) {
            Asked tree = full();
            for (int map = -1; map <= 6; map++) {
                due(tree.has(map, key), 0);
            }
        }
    }

    @Says(promise = 8, value = "-1 if the map is refused")
    private static void hasOfRefusedMaps() {
        for (int map : refusedByHalfFree()) {
            Asked tree = halfFree();
            due(tree.has(map, 0), -1);
            due(tree.has(map, 255), -1);
            due(tree.has(map, 1), -1);
        }
    }

    // Promise 9: size

    @Says(promise = 9, value = "How many keys the map holds")
    private static void sizeFromNoneToSixteen() {
        Asked tree = new Asked();
        for (int place = 0; place < 16; place++) {
            due(tree.size(-1), place);
            tree.put(key(place), 1);
            tree.put(key(place), 2);
        }
        due(tree.size(-1), 16);
        tree.put(1, 1);
        due(tree.size(-1), 16);
        tree.remove(1);
        due(tree.size(-1), 16);
        Asked all = full();
        for (int slot = 0; slot <= 6; slot++) {
            due(all.size(slot), SIZES[slot]);
        }
    }

    @Says(promise = 9, value = "or -1")
    private static void sizeOfRefusedMaps() {
        Asked tree = halfFree();
        for (int map : refusedByHalfFree()) {
            due(tree.size(map), -1);
        }
        for (int slot = 0; slot <= 6; slot += 2) {
            due(tree.size(slot), SIZES[slot]);
        }
    }

    // Promise 10: next

    @Says(promise = 10, value = "The least key at least from that the map holds")
    private static void nextFromEveryKey() {
        for (int map : new int[] {-1, 2, 6}) {
            Asked tree = full();
            for (int from = 0; from <= 255; from++) {
                int sixteen = (from + 16) / 17 * 17;
                due(tree.next(map, from), map != 2 ? sixteen : from == 0 ? 0 : 255);
            }
        }
    }

    @Says(promise = 10, value = "The least key at least from that the map holds")
    private static void nextFromBelowTheKeys() {
        Asked tree = full();
        for (int from : new int[] {-1, -2, -17, -255, -256, -257, LEAST + 17, LEAST}) {
            due(tree.next(-1, from), 0);
            due(tree.next(6, from), 0);
            due(tree.next(0, from), 256);
        }
        due(tree.remove(0), 15);
        due(tree.next(-1, -1), 17);
        due(tree.next(-1, LEAST), 17);
        Asked greatest = new Asked();
        greatest.put(255, 0);
        due(greatest.next(-1, -1), 255);
        due(greatest.next(-1, LEAST), 255);
    }

    @Says(promise = 10, value = "256 if there is none")
    private static void nextOfNone() {
        Asked tree = full();
        for (int from : new int[] {256, 257, 256 + 17, 511, 65536, GREATEST - 1, GREATEST}) {
            due(tree.next(-1, from), 256);
            due(tree.next(6, from), 256);
        }
        for (int from : new int[] {LEAST, -1, 0, 1, 255, 256, GREATEST}) {
            due(tree.next(0, from), 256);
        }
        due(tree.next(1, 0), 0);
        due(tree.next(1, 1), 256);
        due(tree.next(-1, 255), 255);
        due(tree.remove(255), 15);
        due(tree.next(-1, 255), 256);
        due(tree.next(-1, 239), 256);
        due(tree.next(-1, 238), 238);
    }

    @Says(promise = 10, value = "-1 if the map is refused")
    private static void nextOfRefusedMaps() {
        Asked tree = halfFree();
        for (int map : refusedByHalfFree()) {
            due(tree.next(map, 0), -1);
            due(tree.next(map, 255), -1);
        }
    }

    // Promises 11 and 12: nextChange and changes

    @Says(promise = 11, value = "The least key at least from that is held in only one of the two maps")
    private static void nextChangeOfKeysInOneMap() {
        for (int key : new int[] {0, 1, 254, 255}) {
            Asked tree = holding(0);
            tree.put(77, 7);
            tree.commit();
            tree.put(key, 0);
            tree.commit();
            int[][] pairs = {{0, 1}, {1, 0}, {-1, 0}, {0, -1}};
            for (int[] pair : pairs) {
                due(tree.nextChange(pair[0], pair[1], 0), key);
                due(tree.nextChange(pair[0], pair[1], key), key);
                due(tree.nextChange(pair[0], pair[1], key + 1), 256);
            }
            due(tree.nextChange(1, -1, 0), 256);
        }
    }

    @Says(promise = 11, value = "or in both with different values")
    private static void nextChangeOfEveryPairOfValues() {
        for (int first : VALUES) {
            for (int second : VALUES) {
                Asked tree = new Asked();
                tree.put(0, first);
                tree.put(255, second);
                tree.commit();
                tree.put(255, first);
                int least = first == second ? 256 : 255;
                due(tree.nextChange(-1, 0, 0), least);
                due(tree.nextChange(0, -1, 255), least);
                tree.put(0, second);
                due(tree.nextChange(0, -1, 0), first == second ? 256 : 0);
            }
        }
    }

    @Says(promise = 11, value = "The least key at least from")
    private static void nextChangeFromBelowTheKeys() {
        Asked tree = full();
        for (int from : new int[] {0, -1, -2, -17, -256, -257, LEAST + 17, LEAST}) {
            due(tree.nextChange(-1, 6, from), 0);
            due(tree.nextChange(0, 5, from), 0);
            due(tree.nextChange(6, 6, from), 256);
        }
        due(tree.restore(6), 16);
        due(tree.put(255, 1), 16);
        due(tree.nextChange(-1, 6, -1), 255);
        due(tree.nextChange(-1, 6, LEAST), 255);
    }

    @Says(promise = 11, value = "256 if there is none")
    private static void nextChangeOfNone() {
        Asked tree = full();
        for (int from : new int[] {256, 257, 256 + 17, 511, 65536, GREATEST - 1, GREATEST}) {
            due(tree.nextChange(-1, 6, from), 256);
            due(tree.nextChange(0, 6, from), 256);
            due(tree.nextChange(6, 0, from), 256);
        }
        for (int map = -1; map <= 6; map++) {
            due(tree.nextChange(map, map, LEAST), 256);
            due(tree.nextChange(map, map, 0), 256);
            due(tree.nextChange(map, map, GREATEST), 256);
        }
        due(tree.nextChange(-1, 6, 255), 255);
        due(tree.put(255, value(6, 1)), 16);
        due(tree.nextChange(-1, 6, 255), 256);
        due(tree.nextChange(-1, 6, 238), 238);
        due(tree.nextChange(-1, 6, 239), 256);
    }

    @Says(promise = 11, value = "256 if there is none")
    private static void nextChangeOfEmptyMaps() {
        Asked tree = new Asked();
        due(tree.nextChange(-1, -1, 0), 256);
        tree.commit();
        tree.put(0, 5);
        tree.put(255, 5);
        tree.remove(0);
        tree.remove(255);
        tree.commit();
        due(tree.nextChange(0, 1, 0), 256);
        due(tree.nextChange(1, 0, LEAST), 256);
        due(tree.nextChange(-1, 0, 0), 256);
    }

    @Says(promise = 11, value = "-1 if a map is refused")
    private static void nextChangeOfRefusedMaps() {
        for (int map : refusedByHalfFree()) {
            Asked tree = halfFree();
            for (int good : new int[] {-1, 0, 2, 6}) {
                due(tree.nextChange(map, good, 0), -1);
                due(tree.nextChange(good, map, 0), -1);
            }
            for (int other : refusedByHalfFree()) {
                due(tree.nextChange(map, other, 0), -1);
            }
        }
    }

    @Says(promise = 12, value = "How many keys are held in only one of the two maps")
    private static void changesFromNoneToThirtyTwo() {
        Asked tree = holding(16);
        due(tree.commit(), 0);
        for (int place = 0; place < 16; place++) {
            due(tree.changes(-1, 0), place);
            tree.remove(key(place));
        }
        due(tree.changes(-1, 0), 16);
        for (int place = 0; place < 16; place++) {
            tree.put(key(place) == 255 ? 254 : key(place) + 1, 0);
            due(tree.changes(0, -1), 17 + place);
        }
        due(tree.commit(), 1);
        due(tree.changes(0, 1), 32);
        due(tree.changes(1, 0), 32);
    }

    @Says(promise = 12, value = "or in both with different values")
    private static void changesOfEveryPairOfValues() {
        for (int first : VALUES) {
            for (int second : VALUES) {
                Asked tree = new Asked();
                tree.put(0, first);
                tree.put(255, first);
                tree.commit();
                tree.put(255, second);
                due(tree.changes(-1, 0), first == second ? 0 : 1);
                tree.put(0, second);
                due(tree.changes(0, -1), first == second ? 0 : 2);
            }
        }
    }

    @Says(promise = 12, value = "How many keys are held in only one of the two maps, or in both with different values")
    private static void changesOfEveryPairOfMaps() {
        Asked tree = full();
        for (int a = -1; a <= 6; a++) {
            for (int b = -1; b <= 6; b++) {
                int sizeA = a == -1 ? 16 : SIZES[a];
                int sizeB = b == -1 ? 16 : SIZES[b];
                due(tree.changes(a, b), a == b ? 0 : Math.max(sizeA, sizeB));
            }
        }
        Asked empty = new Asked();
        due(empty.changes(-1, -1), 0);
        due(empty.commit(), 0);
        due(empty.changes(-1, 0), 0);
    }

    @Says(promise = 12, value = "-1 if a map is refused")
    private static void changesOfRefusedMaps() {
        for (int map : refusedByHalfFree()) {
            Asked tree = halfFree();
            for (int good : new int[] {-1, 0, 2, 6}) {
                due(tree.changes(map, good), -1);
                due(tree.changes(good, map), -1);
            }
            for (int other : refusedByHalfFree()) {
                due(tree.changes(map, other), -1);
            }
        }
    }

    // Promise 13: Order and limits

    @Says(promise = 13, value = "has, next, nextChange: a refused map answers -1 whatever the key or from is.")
    private static void refusedMapsWithAnyKey() {
        for (int map : refusedByHalfFree()) {
            Asked tree = halfFree();
            for (int key : new int[] {0, 1, 17, 254, 255, -1, 256, LEAST, GREATEST}) {
                due(tree.has(map, key), -1);
                due(tree.next(map, key), -1);
                due(tree.nextChange(map, -1, key), -1);
                due(tree.nextChange(6, map, key), -1);
                due(tree.nextChange(map, map, key), -1);
            }
            for (int key : NOT_KEYS) {
                due(tree.has(map, key), -1);
                due(tree.next(map, key), -1);
                due(tree.nextChange(map, 0, key), -1);
                due(tree.nextChange(-1, map, key), -1);
            }
        }
    }

    @Says(promise = 13, value = "has, next, nextChange: a refused map answers -1 whatever the key or from is.")
    private static void refusedMapsOfANewObject() {
        for (int map = 0; map <= 7; map++) {
            Asked tree = new Asked();
            for (int key : NOT_KEYS) {
                due(tree.has(map, key), -1);
                due(tree.next(map, key), -1);
                due(tree.nextChange(map, -1, key), -1);
                due(tree.nextChange(-1, map, key), -1);
            }
        }
    }
}
