final class Promise14Value extends Check {
    public static void main(String[] args) {
        snapshotFromTheEndOfTheReadingOn();
        heldComesWithTheWrite();
        memoryIsTheSameForAll();
        readsTellTheLatest();
        badArgumentsAreZero();
        finish();
    }

    private static void snapshotFromTheEndOfTheReadingOn() {
        WaitFreeSnapshot x = new WaitFreeSnapshot(2, 16);
        update(x, 0, 5);
        update(x, 1, 6);
        due("value(SNAPSHOT, 1, 0) of an update", x.value(SNAPSHOT, 1, 0), 5);
        due("value(SNAPSHOT, 1, 1): the view is older than the write", x.value(SNAPSHOT, 1, 1), 0);
        x.beginUpdate(1, 7);
        due("value(SNAPSHOT, 1, 0) just begun", x.value(SNAPSHOT, 1, 0), 0);
        x.run(1, 3);
        due("value(SNAPSHOT, 1, 0) before the end", x.value(SNAPSHOT, 1, 0), 0);
        x.run(1, 1);
        due("value(SNAPSHOT, 1, 0) in phase WRITING", x.value(SNAPSHOT, 1, 0), 5);
        due("value(SNAPSHOT, 1, 1) in phase WRITING", x.value(SNAPSHOT, 1, 1), 6);
        update(x, 0, 8);
        x.run(1, 1);
        due("value(SNAPSHOT, 1, 0) after the write", x.value(SNAPSHOT, 1, 0), 5);
        due("value(SNAPSHOT, 1, 1) after the write", x.value(SNAPSHOT, 1, 1), 6);
        x.beginScan(1);
        due("value(SNAPSHOT, 1, 1) of the next", x.value(SNAPSHOT, 1, 1), 0);
        x.run(1, 64);
        due("value(SNAPSHOT, 1, 0) of the next", x.value(SNAPSHOT, 1, 0), 8);
        due("value(SNAPSHOT, 1, 1) of the next", x.value(SNAPSHOT, 1, 1), 7);
    }

    private static void heldComesWithTheWrite() {
        WaitFreeSnapshot x = new WaitFreeSnapshot(2, 16);
        update(x, 0, 5);
        due("value(HELD, 0, 0): version 0", x.value(HELD, 0, 0), 0);
        x.beginUpdate(0, 6);
        x.run(0, 4);
        due("value(HELD, 0, 0) before the write", x.value(HELD, 0, 0), 0);
        x.run(0, 1);
        due("value(HELD, 0, 0) after the write", x.value(HELD, 0, 0), 5);
        due("value(HELD, 1, 0) of one that never wrote", x.value(HELD, 1, 0), 0);
        x.beginScan(0);
        x.run(0, 64);
        due("value(HELD, 0, 0) after a scan", x.value(HELD, 0, 0), 5);
    }

    private static void memoryIsTheSameForAll() {
        WaitFreeSnapshot x = busyPast(16);
        update(x, 2, LEAST_INT);
        int[] want = {0, 11, LEAST_INT};
        x.halt(2);
        for (int i = 0; i < 3; i++) {
            for (int j = 0; j < 3; j++) {
                due("value(MEMORY, " + i + ", " + j + ")", x.value(MEMORY, i, j), want[j]);
            }
        }
    }

    private static void readsTellTheLatest() {
        WaitFreeSnapshot x = new WaitFreeSnapshot(3, 16);
        update(x, 0, 1);
        update(x, 1, 2);
        x.beginScan(2);
        due("value(READS, 2, 0) just begun", x.value(READS, 2, 0), 0);
        x.run(2, 1);
        due("value(READS, 2, 0)", x.value(READS, 2, 0), 1);
        due("value(READS, 2, 1) not yet read", x.value(READS, 2, 1), 0);
        x.run(2, 2);
        update(x, 0, 3);
        update(x, 1, 4);
        due("value(READS, 2, 0) before it is read again", x.value(READS, 2, 0), 1);
        x.run(2, 1);
        due("value(READS, 2, 0) in collect 2", x.value(READS, 2, 0), 3);
        due("value(READS, 2, 1) as in the collect before", x.value(READS, 2, 1), 2);
        x.run(2, 64);
        due("value(READS, 2, 1) finished", x.value(READS, 2, 1), 4);
        update(x, 1, 5);
        due("value(READS, 2, 1) kept", x.value(READS, 2, 1), 4);
        x.beginUpdate(2, 9);
        due("value(READS, 2, 1) of the next", x.value(READS, 2, 1), 0);
        x.run(2, 64);
        due("value(READS, 2, 2): its own register as read", x.value(READS, 2, 2), 0);
    }

    private static void badArgumentsAreZero() {
        WaitFreeSnapshot x = new WaitFreeSnapshot(2, 16);
        for (int i = 1; i <= 4; i++) {
            update(x, i % 2, i * 100);
            update(x, i % 2, i * 100 + 1);
        }
        int[] badKinds = {-1, 4, 5, 7, LEAST_INT, GREATEST_INT};
        for (int kind : badKinds) {
            due("value(" + kind + ", 0, 0)", x.value(kind, 0, 0), 0);
            due("value(" + kind + ", 2, 9)", x.value(kind, 2, 9), 0);
        }
        for (int kind = 0; kind < 4; kind++) {
            for (int bad : outOfRange(2)) {
                due("value(" + kind + ", " + bad + ", 0)", x.value(kind, bad, 0), 0);
                due("value(" + kind + ", 1, " + bad + ")", x.value(kind, 1, bad), 0);
                due("value(" + kind + ", " + bad + ", " + bad + ")", x.value(kind, bad, bad), 0);
            }
        }
    }
}
