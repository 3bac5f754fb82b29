final class Promise02BeginScan extends Check {
    public static void main(String[] args) {
        beginsAnew();
        leavesTheRestAlone();
        refusesOutOfRange();
        refusesHalted();
        refusesBusy();
        doesNotCountTowardsTheLimit();
        finish();
    }

    private static void beginsAnew() {
        WaitFreeSnapshot x = busyPast(16);
        due("movedIn(0, 1) of the scan before", x.movedIn(0, 1), 2);
        due("version of the scan before", x.version(SNAPSHOT, 0), 2);
        due("beginScan(0)", x.beginScan(0), OK);
        due("phase(0)", x.phase(0), SCANNING);
        due("steps(0)", x.steps(0), 0);
        due("intent(0)", x.intent(0), 0);
        due("startedAt(0)", x.startedAt(0), 3);
        due("endedAt(0)", x.endedAt(0), NONE);
        due("lender(0)", x.lender(0), NONE);
        due("version(SNAPSHOT, 0)", x.version(SNAPSHOT, 0), NONE);
        for (int j = 0; j < 3; j++) {
            due("movedIn(0, " + j + ")", x.movedIn(0, j), 0);
            due("value(SNAPSHOT, 0, " + j + ")", x.value(SNAPSHOT, 0, j), 0);
            due("count(SNAPSHOT, 0, " + j + ")", x.count(SNAPSHOT, 0, j), NONE);
            due("value(READS, 0, " + j + ")", x.value(READS, 0, j), 0);
            due("count(READS, 0, " + j + ")", x.count(READS, 0, j), NONE);
        }
        due("run(0, 64): two collects from the first register on", x.run(0, 64), 6);
        due("version(SNAPSHOT, 0) of the new scan", x.version(SNAPSHOT, 0), 3);
    }

    private static void leavesTheRestAlone() {
        WaitFreeSnapshot x = busyPast(16);
        x.beginUpdate(2, 31);
        x.run(2, 4);
        String memory = pictureOfMemory(x, 3);
        String others = pictureOfOthers(x, 3, 1);
        due("beginScan(1) after an update by 1", x.beginScan(1), OK);
        same("the registers after beginScan(1)", pictureOfMemory(x, 3), memory);
        same("the others after beginScan(1)", pictureOfOthers(x, 3, 1), others);
        due("intent(1)", x.intent(1), 0);
        due("the update by 2 goes on", x.run(2, 64), 3);
    }

    private static void refused(WaitFreeSnapshot x, int n, int p, int want) {
        String before = picture(x, n);
        due("beginScan(" + p + ")", x.beginScan(p), want);
        same("the object after a refused beginScan", picture(x, n), before);
    }

    private static void refusesOutOfRange() {
        for (int p : outOfRange(3)) {
            refused(busyPast(16), 3, p, BAD);
        }
        refused(new WaitFreeSnapshot(6, 4), 6, 6, BAD);
        refused(new WaitFreeSnapshot(2, 4), 2, 2, BAD);
    }

    private static void refusesHalted() {
        WaitFreeSnapshot x = busyPast(16);
        x.halt(0);
        refused(x, 3, 0, STOPPED);
        x.beginScan(1);
        x.halt(1);
        refused(x, 3, 1, STOPPED);
        x.beginUpdate(2, 1);
        x.run(2, 6);
        x.halt(2);
        refused(x, 3, 2, STOPPED);
    }

    private static void refusesBusy() {
        WaitFreeSnapshot x = busyPast(16);
        x.beginScan(0);
        refused(x, 3, 0, BUSY);
        x.run(0, 5);
        refused(x, 3, 0, BUSY);
        due("the last step of the scan", x.run(0, 64), 1);
        x.beginUpdate(0, 5);
        refused(x, 3, 0, BUSY);
        x.run(0, 6);
        due("phase(0)", x.phase(0), WRITING);
        refused(x, 3, 0, BUSY);
        x.run(0, 1);
        due("beginScan(0) when the update is finished", x.beginScan(0), OK);
    }

    private static void doesNotCountTowardsTheLimit() {
        WaitFreeSnapshot x = new WaitFreeSnapshot(2, 4);
        for (int i = 0; i < 300; i++) {
            due("beginScan(0) number " + i, x.beginScan(0), OK);
            due("run(0, 64) number " + i, x.run(0, 64), 4);
        }
        for (int i = 0; i < 4; i++) {
            due("steps of update " + i, update(x, 1, i), 5);
        }
        due("beginUpdate(1, 9)", x.beginUpdate(1, 9), FULL);
        due("beginScan(1) when no update is left", x.beginScan(1), OK);
    }
}
