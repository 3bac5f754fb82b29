final class Promise16Version extends Check {
    public static void main(String[] args) {
        snapshotAndHeld();
        memoryCountsAllWrites();
        readsHaveNone();
        badArguments();
        finish();
    }

    private static void snapshotAndHeld() {
        WaitFreeSnapshot x = new WaitFreeSnapshot(2, 16);
        due("version(SNAPSHOT, 0) without an operation", x.version(SNAPSHOT, 0), NONE);
        due("version(HELD, 0)", x.version(HELD, 0), 0);
        update(x, 1, 1);
        update(x, 1, 2);
        due("version(HELD, 1)", x.version(HELD, 1), 1);
        due("version(SNAPSHOT, 1)", x.version(SNAPSHOT, 1), 1);
        x.beginUpdate(0, 3);
        due("version(SNAPSHOT, 0) just begun", x.version(SNAPSHOT, 0), NONE);
        x.run(0, 3);
        due("version(SNAPSHOT, 0) before the end", x.version(SNAPSHOT, 0), NONE);
        x.run(0, 1);
        due("version(SNAPSHOT, 0) in phase WRITING", x.version(SNAPSHOT, 0), 2);
        due("version(HELD, 0) before the write", x.version(HELD, 0), 0);
        update(x, 1, 4);
        x.run(0, 1);
        due("version(SNAPSHOT, 0) after the write", x.version(SNAPSHOT, 0), 2);
        due("version(HELD, 0) after the write", x.version(HELD, 0), 2);
        x.beginScan(0);
        due("version(SNAPSHOT, 0) of the next", x.version(SNAPSHOT, 0), NONE);
        due("version(HELD, 0) stays", x.version(HELD, 0), 2);
        x.halt(0);
        due("version(SNAPSHOT, 0) halted", x.version(SNAPSHOT, 0), NONE);
        due("version(HELD, 0) halted", x.version(HELD, 0), 2);
    }

    private static void memoryCountsAllWrites() {
        WaitFreeSnapshot x = new WaitFreeSnapshot(6, 128);
        for (int w = 1; w <= 128; w++) {
            int p = (w * 5 + w / 7) % 6;
            update(x, p, -w);
            due("version(HELD, p)", x.version(HELD, p), w - 1);
            int sum = 0;
            for (int i = 0; i < 6; i++) {
                due("version(MEMORY, " + i + ") after " + w + " writes", x.version(MEMORY, i), w);
                sum += x.count(MEMORY, 0, i);
            }
            due("the sum of the counts", sum, w);
            due("value(MEMORY, 0, p)", x.value(MEMORY, 0, p), -w);
        }
        x.beginScan(3);
        x.run(3, 64);
        due("version(SNAPSHOT, 3) after all writes", x.version(SNAPSHOT, 3), 128);
    }

    private static void readsHaveNone() {
        WaitFreeSnapshot x = busyPast(16);
        for (int i = 0; i < 3; i++) {
            due("version(READS, " + i + ")", x.version(READS, i), NONE);
        }
        x.beginScan(1);
        x.run(1, 4);
        due("version(READS, 1) in the midst", x.version(READS, 1), NONE);
    }

    private static void badArguments() {
        for (int n = 2; n <= 6; n++) {
            WaitFreeSnapshot x = new WaitFreeSnapshot(n, 16);
            for (int kind = 0; kind < 4; kind++) {
                for (int bad : outOfRange(n)) {
                    due("version(" + kind + ", " + bad + ")", x.version(kind, bad), BAD);
                }
            }
            int[] badKinds = {-1, 4, 5, 7, LEAST_INT, GREATEST_INT};
            for (int kind : badKinds) {
                due("version(" + kind + ", 0)", x.version(kind, 0), BAD);
                due("version(" + kind + ", -1)", x.version(kind, -1), BAD);
            }
        }
    }
}
