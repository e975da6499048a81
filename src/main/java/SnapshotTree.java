public final class SnapshotTree {
    private static final int KEYS = 256;
    private static final int MOST_HELD = 16;
    private static final int SLOTS = 7;
    private static final int ROWS = SLOTS + 1;
    private static final int CELLS = ROWS * KEYS;
    private static final int WORKING_MAP = -1;
    private static final int WORKING_ROW = 0;
    private static final int REFUSED = -1;

    // One row of cells per map, a cell per key: a commit copies a row, so no later change can reach a snapshot.
    private final boolean[] held = new boolean[CELLS];
    private final int[] values = new int[CELLS];
    private final int[] sizes = new int[ROWS];
    private final boolean[] taken = new boolean[SLOTS];

    public SnapshotTree() {
    }

    public int put(int key, int value) {
        if (!isKey(key)) {
            return REFUSED;
        }
        int cell = cellOf(WORKING_ROW, key);
        if (!held[cell]) {
            if (sizes[WORKING_ROW] >= MOST_HELD) {
                return REFUSED;
            }
            held[cell] = true;
            sizes[WORKING_ROW]++;
        }
        values[cell] = value;
        return sizes[WORKING_ROW];
    }

    public int remove(int key) {
        if (!rowHolds(WORKING_ROW, key)) {
            return REFUSED;
        }
        held[cellOf(WORKING_ROW, key)] = false;
        sizes[WORKING_ROW]--;
        return sizes[WORKING_ROW];
    }

    public int commit() {
        for (int slot = 0; slot < SLOTS; slot++) {
            if (!taken[slot]) {
                int row = rowOfMap(slot);
                copyRow(WORKING_ROW, row);
                taken[slot] = true;
                return slot;
            }
        }
        return REFUSED;
    }

    public int restore(int slot) {
        if (!isTakenSlot(slot)) {
            return REFUSED;
        }
        int row = rowOfMap(slot);
        copyRow(row, WORKING_ROW);
        return sizes[WORKING_ROW];
    }

    public int drop(int slot) {
        if (!isTakenSlot(slot)) {
            return REFUSED;
        }
        taken[slot] = false;
        return 0;
    }

    public int get(int map, int key) {
        if (!isMap(map)) {
            return 0;
        }
        int row = rowOfMap(map);
        if (!rowHolds(row, key)) {
            return 0;
        }
        return values[cellOf(row, key)];
    }

    public int has(int map, int key) {
        if (!isMap(map)) {
            return REFUSED;
        }
        int row = rowOfMap(map);
        return rowHolds(row, key) ? 1 : 0;
    }

    public int size(int map) {
        if (!isMap(map)) {
            return REFUSED;
        }
        return sizes[rowOfMap(map)];
    }

    public int next(int map, int from) {
        if (!isMap(map)) {
            return REFUSED;
        }
        int row = rowOfMap(map);
        for (int key = firstKeyFrom(from); key < KEYS; key++) {
            if (held[cellOf(row, key)]) {
                return key;
            }
        }
        return KEYS;
    }

    public int nextChange(int a, int b, int from) {
        if (!isMap(a) || !isMap(b)) {
            return REFUSED;
        }
        int rowA = rowOfMap(a);
        int rowB = rowOfMap(b);
        for (int key = firstKeyFrom(from); key < KEYS; key++) {
            if (rowsDiffer(rowA, rowB, key)) {
                return key;
            }
        }
        return KEYS;
    }

    public int changes(int a, int b) {
        if (!isMap(a) || !isMap(b)) {
            return REFUSED;
        }
        int rowA = rowOfMap(a);
        int rowB = rowOfMap(b);
        int count = 0;
        for (int key = 0; key < KEYS; key++) {
            if (rowsDiffer(rowA, rowB, key)) {
                count++;
            }
        }
        return count;
    }

    private static boolean isKey(int key) {
        return key >= 0 && key < KEYS;
    }

    private boolean isTakenSlot(int slot) {
        return slot >= 0 && slot < SLOTS && taken[slot];
    }

    private boolean isMap(int map) {
        return map == WORKING_MAP || isTakenSlot(map);
    }

    // The working map's number is -1, so its row comes first and each slot's row one after the slot's number.
    private static int rowOfMap(int map) {
        return map + 1;
    }

    private static int cellOf(int row, int key) {
        return row * KEYS + key;
    }

    private static int firstKeyFrom(int from) {
        return from < 0 ? 0 : from;
    }

    private boolean rowHolds(int row, int key) {
        return isKey(key) && held[cellOf(row, key)];
    }

    // A removed key's old value stays in its cell, so values count only where both maps hold the key.
    private boolean rowsDiffer(int rowA, int rowB, int key) {
        int cellA = cellOf(rowA, key);
        int cellB = cellOf(rowB, key);
        if (held[cellA] != held[cellB]) {
            return true;
        }
        return held[cellA] && values[cellA] != values[cellB];
    }

    private void copyRow(int fromRow, int toRow) {
        for (int key = 0; key < KEYS; key++) {
            int source = cellOf(fromRow, key);
            int target = cellOf(toRow, key);
            held[target] = held[source];
            values[target] = values[source];
        }
        sizes[toRow] = sizes[fromRow];
    }
}
