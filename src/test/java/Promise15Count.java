final class Promise15Count extends Check {
    public static void main(String[] args) {
        goesWithTheValue();
        noneOnlyWithSnapshotAndReads();
        noneForWhatIsNotYetRead();
        badArguments();
        finish();
    }

    private static void goesWithTheValue() {
        WaitFreeSnapshot x = new WaitFreeSnapshot(2, 16);
        update(x, 0, 10);
        update(x, 0, 11);
        update(x, 1, 20);
        x.beginScan(0);
        x.run(0, 3);
        x.beginUpdate(1, 21);
        x.run(1, 4);
        due("count(SNAPSHOT, 1, 0) in phase WRITING", x.count(SNAPSHOT, 1, 0), 2);
        due("count(SNAPSHOT, 1, 1) in phase WRITING", x.count(SNAPSHOT, 1, 1), 1);
        due("count(HELD, 1, 1) before the write", x.count(HELD, 1, 1), 0);
        due("count(MEMORY, 0, 1) before the write", x.count(MEMORY, 0, 1), 1);
        x.run(1, 1);
        due("count(HELD, 1, 1) after the write", x.count(HELD, 1, 1), 1);
        due("count(HELD, 1, 0)", x.count(HELD, 1, 0), 2);
        due("count(HELD, 0, 0): the view came before the write", x.count(HELD, 0, 0), 1);
        due("count(HELD, 0, 1): not written then", x.count(HELD, 0, 1), 0);
        due("count(MEMORY, 0, 1)", x.count(MEMORY, 0, 1), 2);
        due("count(MEMORY, 1, 1)", x.count(MEMORY, 1, 1), 2);
        due("count(MEMORY, 1, 0)", x.count(MEMORY, 1, 0), 2);
        due("count(READS, 0, 1) as found in collect 1", x.count(READS, 0, 1), 1);
        x.run(0, 1);
        due("count(READS, 0, 1) as found in collect 2", x.count(READS, 0, 1), 2);
        due("count(SNAPSHOT, 0, 1)", x.count(SNAPSHOT, 0, 1), NONE);
        x.run(0, 64);
        due("count(SNAPSHOT, 0, 1)", x.count(SNAPSHOT, 0, 1), 2);
    }

    private static void noneOnlyWithSnapshotAndReads() {
        WaitFreeSnapshot x = new WaitFreeSnapshot(3, 16);
        for (int j = 0; j < 3; j++) {
            due("count(SNAPSHOT, 1, j) without an operation", x.count(SNAPSHOT, 1, j), NONE);
            due("count(READS, 1, j) without an operation", x.count(READS, 1, j), NONE);
            due("count(HELD, 1, j)", x.count(HELD, 1, j), 0);
            due("count(MEMORY, 1, j)", x.count(MEMORY, 1, j), 0);
        }
    }

    private static void noneForWhatIsNotYetRead() {
        WaitFreeSnapshot x = new WaitFreeSnapshot(3, 16);
        update(x, 1, 0);
        x.beginScan(0);
        for (int read = 0; read <= 6; read++) {
            for (int j = 0; j < 3; j++) {
                int found = j == 1 ? 1 : 0;
                due("count(READS, 0, " + j + ") after " + read + " reads", x.count(READS, 0, j), j < read ? found : NONE);
                due("count(SNAPSHOT, 0, " + j + ") after " + read, x.count(SNAPSHOT, 0, j), read < 6 ? NONE : found);
            }
            x.run(0, 1);
        }
        x.beginScan(0);
        due("count(SNAPSHOT, 0, 1) of the next", x.count(SNAPSHOT, 0, 1), NONE);
        due("count(READS, 0, 1) of the next", x.count(READS, 0, 1), NONE);
    }

    private static void badArguments() {
        WaitFreeSnapshot x = new WaitFreeSnapshot(2, 16);
        update(x, 0, 1);
        int[] badKinds = {-1, 4, 5, 7, LEAST_INT, GREATEST_INT};
        for (int kind : badKinds) {
            due("count(" + kind + ", 0, 0)", x.count(kind, 0, 0), BAD);
            due("count(" + kind + ", 2, 9)", x.count(kind, 2, 9), BAD);
        }
        for (int kind = 0; kind < 4; kind++) {
            for (int bad : outOfRange(2)) {
                due("count(" + kind + ", " + bad + ", 0)", x.count(kind, bad, 0), BAD);
                due("count(" + kind + ", 1, " + bad + ")", x.count(kind, 1, bad), BAD);
                due("count(" + kind + ", " + bad + ", " + bad + ")", x.count(kind, bad, bad), BAD);
            }
        }
    }
}
