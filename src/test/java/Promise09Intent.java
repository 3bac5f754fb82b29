final class Promise09Intent extends Check {
    public static void main(String[] args) {
        toldUntilTheWrite();
        toldWhenHalted();
        zeroInAllOtherPhases();
        outOfRangeIsZero();
        finish();
    }

    private static void toldUntilTheWrite() {
        int[] values = {42, -1, 0, LEAST_INT, GREATEST_INT};
        WaitFreeSnapshot x = new WaitFreeSnapshot(2, 16);
        for (int value : values) {
            x.beginUpdate(0, value);
            for (int step = 0; step < 5; step++) {
                due("intent(0) after " + step + " steps", x.intent(0), value);
                due("intent(1)", x.intent(1), 0);
                x.run(0, 1);
            }
            due("intent(0) after the write", x.intent(0), 0);
        }
    }

    private static void toldWhenHalted() {
        WaitFreeSnapshot x = new WaitFreeSnapshot(3, 16);
        x.beginUpdate(0, 10);
        x.beginUpdate(1, 11);
        x.run(1, 6);
        update(x, 2, 12);
        for (int p = 0; p < 3; p++) {
            x.halt(p);
        }
        due("intent(0) halted in UPDATING", x.intent(0), 10);
        due("intent(1) halted in WRITING", x.intent(1), 11);
        due("intent(2) halted in IDLE", x.intent(2), 0);
    }

    private static void zeroInAllOtherPhases() {
        WaitFreeSnapshot x = new WaitFreeSnapshot(2, 16);
        due("intent(0) at first", x.intent(0), 0);
        update(x, 0, 33);
        x.beginScan(0);
        due("intent(0) in a scan after an update", x.intent(0), 0);
        x.run(0, 3);
        due("intent(0) in a scan after an update", x.intent(0), 0);
        x.halt(0);
        due("intent(0) in a halted scan", x.intent(0), 0);
    }

    private static void outOfRangeIsZero() {
        WaitFreeSnapshot x = new WaitFreeSnapshot(2, 16);
        x.beginUpdate(0, 33);
        x.beginUpdate(1, 34);
        for (int p : outOfRange(2)) {
            due("intent(" + p + ")", x.intent(p), 0);
        }
    }
}
