import java.util.TreeMap;
import java.util.TreeSet;

/** Long mixed runs, each answer held against a plain model made of library maps. */
public final class ModelTest {
    private static final int RUNS = 400;
    private static final int CALLS = 512;
    private static final int[] FAR = {-1, 256, -2, 257, Integer.MIN_VALUE, Integer.MAX_VALUE};

    private final SnapshotTree tree = new SnapshotTree();
    // Place 0 is the working map, place slot + 1 the slot; an empty place is a free slot.
    private final TreeMap<Integer, Integer>[] maps = emptyMaps();
    private final int run;
    private final int keysTried;
    private long state;
    private static int wrong = 0;

    private ModelTest(int run) {
        this.run = run;
        // Few keys make the maps meet often, many keys fill them to the limit.
        this.keysTried = run % 3 == 0 ? 6 : run % 3 == 1 ? 24 : 256;
        this.state = run * 7919L + 1;
        maps[0] = new TreeMap<>();
    }

    @SuppressWarnings("unchecked")
    private static TreeMap<Integer, Integer>[] emptyMaps() {
        return new TreeMap[8];
    }

    public static void main(String[] args) {
        for (int run = 0; run < RUNS; run++) {
            ModelTest test = new ModelTest(run);
            for (int call = 0; call < CALLS; call++) {
                test.callOnce();
            }
        }
        System.out.println(wrong == 0 ? "all answers are as due" : wrong + " answers are not as due");
        if (wrong != 0) {
            System.exit(1);
        }
    }

    // A fixed sequence instead of a random source: a failing run fails again.
    private int pick(int bound) {
        state = state * 6364136223846793005L + 1442695040888963407L;
        return (int) ((state >>> 33) % bound);
    }

    private int pickKey() {
        if (pick(16) == 0) {
            return FAR[pick(FAR.length)];
        }
        return pick(keysTried) * 255 / (keysTried - 1);
    }

    private int pickMap() {
        return pick(16) == 0 ? FAR[1 + pick(FAR.length - 1)] : pick(9) - 1;
    }

    private int pickValue() {
        return pick(4) - 1;
    }

    private TreeMap<Integer, Integer> map(int number) {
        return number < -1 || number > 6 ? null : maps[number + 1];
    }

    private TreeMap<Integer, Integer> snapshot(int slot) {
        return slot == -1 ? null : map(slot);
    }

    private void due(String call, int got, int want) {
        if (got != want) {
            wrong++;
            System.out.println("run " + run + ": " + call + " answered " + got + ", due is " + want);
        }
    }

    private void callOnce() {
        int kind = pick(20);
        if (kind < 5) {
            callPut(pickKey(), pickValue());
        } else if (kind < 7) {
            callRemove(pickKey());
        } else if (kind < 9) {
            callCommit();
        } else if (kind < 10) {
            callRestore(pickMap());
        } else if (kind < 11) {
            callDrop(pickMap());
        } else {
            callReader(kind, pickMap(), pickMap(), pickKey());
        }
    }

    private void callPut(int key, int value) {
        boolean refused = key < 0 || key > 255 || (!maps[0].containsKey(key) && maps[0].size() == 16);
        if (!refused) {
            maps[0].put(key, value);
        }
        due("put(" + key + ", " + value + ")", tree.put(key, value), refused ? -1 : maps[0].size());
    }

    private void callRemove(int key) {
        boolean refused = maps[0].remove(key) == null;
        due("remove(" + key + ")", tree.remove(key), refused ? -1 : maps[0].size());
    }

    private void callCommit() {
        int slot = 0;
        while (slot <= 6 && maps[slot + 1] != null) {
            slot++;
        }
        if (slot <= 6) {
            maps[slot + 1] = new TreeMap<>(maps[0]);
        }
        due("commit()", tree.commit(), slot <= 6 ? slot : -1);
    }

    private void callRestore(int slot) {
        TreeMap<Integer, Integer> found = snapshot(slot);
        if (found != null) {
            maps[0] = new TreeMap<>(found);
        }
        due("restore(" + slot + ")", tree.restore(slot), found == null ? -1 : found.size());
    }

    private void callDrop(int slot) {
        boolean refused = snapshot(slot) == null;
        if (!refused) {
            maps[slot + 1] = null;
        }
        due("drop(" + slot + ")", tree.drop(slot), refused ? -1 : 0);
    }

    private void callReader(int kind, int a, int b, int key) {
        TreeMap<Integer, Integer> mapA = map(a);
        boolean refused = mapA == null;
        String one = "(" + a + ", " + key + ")";
        if (kind == 11) {
            due("size(" + a + ")", tree.size(a), refused ? -1 : mapA.size());
        } else if (kind == 12) {
            due("has" + one, tree.has(a, key), refused ? -1 : mapA.containsKey(key) ? 1 : 0);
        } else if (kind < 15) {
            due("get" + one, tree.get(a, key), refused ? 0 : mapA.getOrDefault(key, 0));
        } else if (kind == 15) {
            Integer least = refused ? null : mapA.ceilingKey(key);
            due("next" + one, tree.next(a, key), refused ? -1 : least == null ? 256 : least);
        } else {
            callComparer(kind, a, b, key);
        }
    }

    private void callComparer(int kind, int a, int b, int from) {
        boolean refused = map(a) == null || map(b) == null;
        TreeSet<Integer> changed = refused ? new TreeSet<>() : changedKeys(map(a), map(b));
        if (kind < 18) {
            Integer least = changed.ceiling(from);
            int want = refused ? -1 : least == null ? 256 : least;
            due("nextChange(" + a + ", " + b + ", " + from + ")", tree.nextChange(a, b, from), want);
        } else {
            due("changes(" + a + ", " + b + ")", tree.changes(a, b), refused ? -1 : changed.size());
        }
    }

    private static TreeSet<Integer> changedKeys(TreeMap<Integer, Integer> a, TreeMap<Integer, Integer> b) {
        TreeSet<Integer> keys = new TreeSet<>(a.keySet());
        keys.addAll(b.keySet());
        keys.removeIf(key -> a.containsKey(key) && a.get(key).equals(b.get(key)));
        return keys;
    }
}
