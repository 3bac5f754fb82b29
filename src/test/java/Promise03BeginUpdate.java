final class Promise03BeginUpdate extends Check {
    public static void main(String[] args) {
        beginsAnew();
        leavesTheRestAlone();
        takesAnyValue();
        refusesOutOfRange();
        refusesHalted();
        refusesBusy();
        refusesWhenFull();
        countsUnfinishedAndHalted();
        refusedOnesDoNotCount();
        finish();
    }

    private static void beginsAnew() {
        WaitFreeSnapshot x = busyPast(16);
        due("beginUpdate(0, 77)", x.beginUpdate(0, 77), OK);
        due("phase(0)", x.phase(0), UPDATING);
        due("steps(0)", x.steps(0), 0);
        due("intent(0)", x.intent(0), 77);
        due("startedAt(0)", x.startedAt(0), 3);
        due("endedAt(0)", x.endedAt(0), NONE);
        due("lender(0)", x.lender(0), NONE);
        due("version(SNAPSHOT, 0)", x.version(SNAPSHOT, 0), NONE);
        for (int j = 0; j < 3; j++) {
            due("movedIn(0, " + j + ")", x.movedIn(0, j), 0);
            due("count(SNAPSHOT, 0, " + j + ")", x.count(SNAPSHOT, 0, j), NONE);
            due("count(READS, 0, " + j + ")", x.count(READS, 0, j), NONE);
            due("value(SNAPSHOT, 0, " + j + ")", x.value(SNAPSHOT, 0, j), 0);
            due("value(READS, 0, " + j + ")", x.value(READS, 0, j), 0);
        }
        due("value(MEMORY, 0, 0): nothing is written yet", x.value(MEMORY, 0, 0), 0);
        due("run(0, 64)", x.run(0, 64), 7);
        due("value(MEMORY, 0, 0) after the write", x.value(MEMORY, 0, 0), 77);
        due("intent(0) after the write", x.intent(0), 0);
    }

    private static void leavesTheRestAlone() {
        WaitFreeSnapshot x = busyPast(16);
        x.beginUpdate(2, 31);
        x.run(2, 4);
        String memory = pictureOfMemory(x, 3);
        String others = pictureOfOthers(x, 3, 1);
        due("beginUpdate(1, 12)", x.beginUpdate(1, 12), OK);
        same("the registers after beginUpdate", pictureOfMemory(x, 3), memory);
        same("the others after beginUpdate", pictureOfOthers(x, 3, 1), others);
        due("intent(2)", x.intent(2), 31);
        due("the update by 2 goes on", x.run(2, 64), 3);
        due("value(MEMORY, 0, 2)", x.value(MEMORY, 0, 2), 31);
    }

    private static void takesAnyValue() {
        int[] values = {0, 1, -1, -6, -7, LEAST_INT, GREATEST_INT, GREATEST_INT};
        WaitFreeSnapshot x = new WaitFreeSnapshot(2, 8);
        for (int i = 0; i < values.length; i++) {
            due("beginUpdate(0, " + values[i] + ")", x.beginUpdate(0, values[i]), OK);
            due("intent(0)", x.intent(0), values[i]);
            due("run(0, 64)", x.run(0, 64), 5);
            due("value(MEMORY, 1, 0)", x.value(MEMORY, 1, 0), values[i]);
            due("count(MEMORY, 1, 0)", x.count(MEMORY, 1, 0), i + 1);
        }
    }

    private static void refused(WaitFreeSnapshot x, int n, int p, int want) {
        String before = picture(x, n);
        due("beginUpdate(" + p + ", 99)", x.beginUpdate(p, 99), want);
        same("the object after a refused beginUpdate", picture(x, n), before);
    }

    private static void refusesOutOfRange() {
        for (int p : outOfRange(3)) {
            refused(busyPast(16), 3, p, BAD);
        }
        refused(new WaitFreeSnapshot(6, 4), 6, 6, BAD);
        refused(new WaitFreeSnapshot(2, 4), 2, 2, BAD);
    }

    private static void refusesHalted() {
        WaitFreeSnapshot x = busyPast(16);
        x.halt(0);
        refused(x, 3, 0, STOPPED);
        x.beginUpdate(1, 5);
        x.halt(1);
        refused(x, 3, 1, STOPPED);
    }

    private static void refusesBusy() {
        WaitFreeSnapshot x = busyPast(16);
        x.beginUpdate(0, 5);
        refused(x, 3, 0, BUSY);
        x.run(0, 6);
        due("phase(0)", x.phase(0), WRITING);
        refused(x, 3, 0, BUSY);
        due("intent(0) after a refused update", x.intent(0), 5);
        x.run(0, 1);
        due("value(MEMORY, 0, 0)", x.value(MEMORY, 0, 0), 5);
        x.beginScan(0);
        refused(x, 3, 0, BUSY);
    }

    private static void refusesWhenFull() {
        WaitFreeSnapshot x = busyPast(4);
        x.beginScan(2);
        x.halt(1);
        due("beginUpdate(0, 4), the fourth", x.beginUpdate(0, 4), OK);
        refused(x, 3, -1, BAD);
        refused(x, 3, 3, BAD);
        refused(x, 3, 1, STOPPED);
        refused(x, 3, 2, BUSY);
        refused(x, 3, 0, BUSY);
        x.run(2, 64);
        x.run(0, 64);
        refused(x, 3, 2, FULL);
        refused(x, 3, 0, FULL);
        refused(x, 3, 0, FULL);
    }

    private static void countsUnfinishedAndHalted() {
        WaitFreeSnapshot x = new WaitFreeSnapshot(6, 4);
        for (int p = 0; p < 4; p++) {
            due("beginUpdate(" + p + ", 1)", x.beginUpdate(p, 1), OK);
        }
        x.halt(0);
        x.run(1, 12);
        x.halt(1);
        due("version(MEMORY, 0)", x.version(MEMORY, 0), 0);
        refused(x, 6, 4, FULL);
        due("run(2, 64)", x.run(2, 64), 13);
        refused(x, 6, 5, FULL);
        refused(x, 6, 2, FULL);
    }

    private static void refusedOnesDoNotCount() {
        WaitFreeSnapshot x = new WaitFreeSnapshot(3, 4);
        x.halt(2);
        due("beginUpdate(0, 1)", x.beginUpdate(0, 1), OK);
        for (int i = 0; i < 10; i++) {
            due("beginUpdate(7, 1)", x.beginUpdate(7, 1), BAD);
            due("beginUpdate(2, 1)", x.beginUpdate(2, 1), STOPPED);
            due("beginUpdate(0, 1)", x.beginUpdate(0, 1), BUSY);
        }
        x.run(0, 64);
        for (int i = 0; i < 3; i++) {
            update(x, 1, i);
        }
        due("beginUpdate(1, 1), the fifth", x.beginUpdate(1, 1), FULL);
    }
}
