/** Each promise of the document on ordinary inputs; BoundaryTest has the edges and the wrong inputs. */
public final class PromiseTest {
    private static int promise = 0;
    private static int wrong = 0;

    private static void due(String call, int got, int want) {
        if (got != want) {
            wrong++;
            System.out.println("promise " + promise + ": " + call + " answered " + got + ", due is " + want);
        }
    }

    public static void main(String[] args) {
        newObject();
        putOrdinary();
        removeOrdinary();
        commitTakesLeastFreeSlot();
        snapshotsNeverChange();
        restoreOrdinary();
        restoreForgetsTheWorkingMap();
        dropOrdinary();
        dropLeavesTheRest();
        getOrdinary();
        hasOrdinary();
        sizeOrdinary();
        nextOrdinary();
        nextChangeOrdinary();
        changesOrdinary();
        changesOfRemovedKeys();
        System.out.println(wrong == 0 ? "all answers are as due" : wrong + " answers are not as due");
        if (wrong != 0) {
            System.exit(1);
        }
    }

    /** Puts keys 0, step, 2 * step, ... with the values 100, 101, 102, ... */
    private static SnapshotTree holding(int count, int step) {
        SnapshotTree tree = new SnapshotTree();
        for (int i = 0; i < count; i++) {
            tree.put(i * step, 100 + i);
        }
        return tree;
    }

    private static SnapshotTree withAllSlotsTaken() {
        SnapshotTree tree = new SnapshotTree();
        for (int slot = 0; slot <= 6; slot++) {
            tree.put(slot, slot);
            tree.commit();
        }
        return tree;
    }

    private static void newObject() {
        promise = 1;
        SnapshotTree tree = new SnapshotTree();
        due("size(-1)", tree.size(-1), 0);
        due("next(-1, 0)", tree.next(-1, 0), 256);
        for (int slot = 0; slot <= 6; slot++) {
            due("size(" + slot + ")", tree.size(slot), -1);
            due("has(" + slot + ", 0)", tree.has(slot, 0), -1);
            due("drop(" + slot + ")", tree.drop(slot), -1);
            due("restore(" + slot + ")", tree.restore(slot), -1);
        }
        for (int key = 0; key <= 255; key++) {
            due("has(-1, " + key + ")", tree.has(-1, key), 0);
        }
        due("changes(-1, -1)", tree.changes(-1, -1), 0);
        due("commit()", tree.commit(), 0);
        due("size(0)", tree.size(0), 0);
    }

    private static void putOrdinary() {
        promise = 2;
        SnapshotTree tree = new SnapshotTree();
        due("put(0, 7)", tree.put(0, 7), 1);
        due("put(255, 8)", tree.put(255, 8), 2);
        due("put(100, 9)", tree.put(100, 9), 3);
        due("put(0, 10), held", tree.put(0, 10), 3);
        due("get(-1, 0)", tree.get(-1, 0), 10);
        due("get(-1, 255)", tree.get(-1, 255), 8);
        due("get(-1, 100)", tree.get(-1, 100), 9);
        due("size(-1)", tree.size(-1), 3);
    }

    private static void removeOrdinary() {
        promise = 3;
        SnapshotTree tree = new SnapshotTree();
        tree.put(0, 5);
        tree.put(255, 6);
        tree.put(9, 0);
        due("remove(0)", tree.remove(0), 2);
        due("has(-1, 0)", tree.has(-1, 0), 0);
        due("get(-1, 0)", tree.get(-1, 0), 0);
        due("remove(0) again", tree.remove(0), -1);
        due("size(-1)", tree.size(-1), 2);
        due("remove(255)", tree.remove(255), 1);
        due("remove(9), value 0", tree.remove(9), 0);
        due("remove(9) again", tree.remove(9), -1);
        due("size(-1)", tree.size(-1), 0);
        due("put(0, 0) after remove", tree.put(0, 0), 1);
        due("get(-1, 0) after put", tree.get(-1, 0), 0);
    }

    private static void commitTakesLeastFreeSlot() {
        promise = 4;
        SnapshotTree tree = new SnapshotTree();
        for (int slot = 0; slot <= 6; slot++) {
            due("commit()", tree.commit(), slot);
        }
        due("commit(), none free", tree.commit(), -1);
        tree.drop(5);
        tree.drop(2);
        tree.drop(6);
        due("commit(), 2, 5, 6 free", tree.commit(), 2);
        due("commit(), 5, 6 free", tree.commit(), 5);
        due("commit(), 6 free", tree.commit(), 6);
        due("commit(), none free", tree.commit(), -1);
        tree.drop(0);
        due("commit(), 0 free", tree.commit(), 0);
    }

    private static void snapshotsNeverChange() {
        promise = 4;
        SnapshotTree tree = new SnapshotTree();
        tree.put(1, 10);
        tree.put(255, 20);
        due("commit()", tree.commit(), 0);
        due("size(-1) after commit", tree.size(-1), 2);
        due("get(-1, 1) after commit", tree.get(-1, 1), 10);
        tree.put(1, 11);
        tree.remove(255);
        tree.put(3, 30);
        due("commit()", tree.commit(), 1);
        tree.restore(0);
        tree.put(1, 12);
        tree.drop(1);
        due("size(0)", tree.size(0), 2);
        due("get(0, 1)", tree.get(0, 1), 10);
        due("get(0, 255)", tree.get(0, 255), 20);
        due("has(0, 3)", tree.has(0, 3), 0);
    }

    private static void restoreOrdinary() {
        promise = 5;
        SnapshotTree tree = new SnapshotTree();
        tree.commit();
        tree.put(0, 1);
        tree.put(255, 2);
        tree.commit();
        tree.put(0, 3);
        tree.put(7, 4);
        tree.remove(255);
        due("restore(1)", tree.restore(1), 2);
        due("get(-1, 0)", tree.get(-1, 0), 1);
        due("get(-1, 255)", tree.get(-1, 255), 2);
        due("has(-1, 7)", tree.has(-1, 7), 0);
        due("changes(-1, 1)", tree.changes(-1, 1), 0);
        due("size(1), still taken", tree.size(1), 2);
        due("restore(0), the empty map", tree.restore(0), 0);
        due("next(-1, 0)", tree.next(-1, 0), 256);
        due("restore(1) again", tree.restore(1), 2);
        due("put(8, 8)", tree.put(8, 8), 3);
        due("size(1) after put", tree.size(1), 2);
    }

    private static void restoreForgetsTheWorkingMap() {
        promise = 5;
        SnapshotTree tree = holding(1, 1);
        tree.commit();
        for (int i = 1; i < 16; i++) {
            tree.put(i * 17, i);
        }
        due("size(-1)", tree.size(-1), 16);
        due("restore(0)", tree.restore(0), 1);
        for (int i = 1; i < 16; i++) {
            due("put(" + (i + 100) + ", 1) after restore", tree.put(i + 100, 1), i + 1);
        }
        due("put(200, 1), 16 held", tree.put(200, 1), -1);
        SnapshotTree full = withAllSlotsTaken();
        due("restore(6)", full.restore(6), 7);
        due("get(-1, 6)", full.get(-1, 6), 6);
    }

    private static void dropOrdinary() {
        promise = 6;
        SnapshotTree tree = withAllSlotsTaken();
        for (int slot = 6; slot >= 0; slot--) {
            due("drop(" + slot + ")", tree.drop(slot), 0);
            due("drop(" + slot + ") again", tree.drop(slot), -1);
            due("size(" + slot + ")", tree.size(slot), -1);
            due("get(" + slot + ", 0)", tree.get(slot, 0), 0);
            due("restore(" + slot + ")", tree.restore(slot), -1);
        }
        due("commit() after all drops", tree.commit(), 0);
    }

    private static void dropLeavesTheRest() {
        promise = 6;
        SnapshotTree tree = withAllSlotsTaken();
        tree.restore(3);
        due("drop(3)", tree.drop(3), 0);
        due("size(-1), restored before the drop", tree.size(-1), 4);
        due("get(-1, 3), restored before the drop", tree.get(-1, 3), 3);
        due("size(2)", tree.size(2), 3);
        due("size(4)", tree.size(4), 5);
        tree.remove(0);
        due("commit()", tree.commit(), 3);
        due("has(3, 0), not the dropped snapshot", tree.has(3, 0), 0);
        due("size(3)", tree.size(3), 3);
    }

    private static void getOrdinary() {
        promise = 7;
        SnapshotTree tree = new SnapshotTree();
        for (int slot = 0; slot <= 6; slot++) {
            tree.put(0, slot + 1);
            tree.put(255, -slot - 1);
            tree.commit();
        }
        tree.put(0, 99);
        due("get(-1, 0)", tree.get(-1, 0), 99);
        due("get(-1, 255)", tree.get(-1, 255), -7);
        for (int slot = 0; slot <= 6; slot++) {
            due("get(" + slot + ", 0)", tree.get(slot, 0), slot + 1);
            due("get(" + slot + ", 255)", tree.get(slot, 255), -slot - 1);
        }
    }

    private static void hasOrdinary() {
        promise = 8;
        SnapshotTree tree = new SnapshotTree();
        tree.put(0, 0);
        tree.put(255, 0);
        tree.commit();
        tree.remove(0);
        due("has(-1, 0)", tree.has(-1, 0), 0);
        due("has(-1, 255)", tree.has(-1, 255), 1);
        due("has(0, 0)", tree.has(0, 0), 1);
        due("has(0, 255)", tree.has(0, 255), 1);
        due("has(0, 254)", tree.has(0, 254), 0);
    }

    private static void sizeOrdinary() {
        promise = 9;
        SnapshotTree tree = new SnapshotTree();
        for (int i = 0; i < 16; i++) {
            due("size(-1)", tree.size(-1), i);
            tree.put(i, i);
        }
        due("size(-1), full", tree.size(-1), 16);
        tree.commit();
        tree.remove(4);
        tree.put(5, 0);
        due("size(-1)", tree.size(-1), 15);
        due("size(0)", tree.size(0), 16);
        due("size(1), free", tree.size(1), -1);
        tree.drop(0);
        due("size(0), dropped", tree.size(0), -1);
        SnapshotTree full = withAllSlotsTaken();
        for (int slot = 0; slot <= 6; slot++) {
            due("size(" + slot + ")", full.size(slot), slot + 1);
        }
    }

    private static void nextOrdinary() {
        promise = 10;
        SnapshotTree tree = new SnapshotTree();
        tree.put(200, 0);
        tree.put(3, 1);
        tree.put(70, 2);
        tree.commit();
        tree.remove(70);
        due("next(-1, 0)", tree.next(-1, 0), 3);
        due("next(-1, 3)", tree.next(-1, 3), 3);
        due("next(-1, 4)", tree.next(-1, 4), 200);
        due("next(0, 4)", tree.next(0, 4), 70);
        due("next(0, 71)", tree.next(0, 71), 200);
        due("next(0, 201)", tree.next(0, 201), 256);
    }

    private static void nextChangeOrdinary() {
        promise = 11;
        SnapshotTree tree = new SnapshotTree();
        tree.put(10, 1);
        tree.put(20, 2);
        tree.put(30, 3);
        tree.commit();
        tree.remove(10);
        tree.put(20, -2);
        tree.put(40, 0);
        tree.commit();
        int[][] orders = {{0, 1}, {1, 0}, {0, -1}, {-1, 0}};
        for (int[] o : orders) {
            String maps = "nextChange(" + o[0] + ", " + o[1] + ", ";
            due(maps + "0)", tree.nextChange(o[0], o[1], 0), 10);
            due(maps + "10)", tree.nextChange(o[0], o[1], 10), 10);
            due(maps + "11)", tree.nextChange(o[0], o[1], 11), 20);
            due(maps + "21)", tree.nextChange(o[0], o[1], 21), 40);
            due(maps + "41)", tree.nextChange(o[0], o[1], 41), 256);
        }
        due("nextChange(-1, 1, 0), the same", tree.nextChange(-1, 1, 0), 256);
        due("nextChange(-1, -1, 0)", tree.nextChange(-1, -1, 0), 256);
        due("nextChange(0, 0, 0)", tree.nextChange(0, 0, 0), 256);
    }

    private static void changesOrdinary() {
        promise = 12;
        SnapshotTree tree = holding(5, 10);
        tree.commit();
        due("changes(-1, 0)", tree.changes(-1, 0), 0);
        tree.put(0, -1);
        due("changes(-1, 0), another value", tree.changes(-1, 0), 1);
        tree.remove(10);
        due("changes(-1, 0), a key less", tree.changes(-1, 0), 2);
        tree.put(255, 0);
        due("changes(-1, 0), a key more", tree.changes(-1, 0), 3);
        due("changes(0, -1)", tree.changes(0, -1), 3);
        tree.commit();
        due("changes(0, 1)", tree.changes(0, 1), 3);
        due("changes(1, 0)", tree.changes(1, 0), 3);
        due("changes(1, -1)", tree.changes(1, -1), 0);
        due("changes(0, 0)", tree.changes(0, 0), 0);
        tree.put(0, 100);
        due("changes(-1, 0), the first value again", tree.changes(-1, 0), 2);
    }

    private static void changesOfRemovedKeys() {
        promise = 12;
        SnapshotTree tree = new SnapshotTree();
        tree.commit();
        tree.put(6, 60);
        tree.remove(6);
        due("changes(-1, 0), put and removed", tree.changes(-1, 0), 0);
        tree.put(6, 0);
        due("changes(-1, 0), held with value 0", tree.changes(-1, 0), 1);
        due("changes(0, -1), held with value 0", tree.changes(0, -1), 1);
        tree.commit();
        tree.put(6, 60);
        tree.remove(6);
        tree.put(6, 0);
        due("changes(-1, 1), removed and put", tree.changes(-1, 1), 0);
    }
}
