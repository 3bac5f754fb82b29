final class Promise06Halt extends Check {
    public static void main(String[] args) {
        refusals();
        stopsForEver();
        everythingElseStays();
        haltedBeforeItsWriteNeverWrites();
        othersGoOn();
        finish();
    }

    private static void refusals() {
        WaitFreeSnapshot x = busyPast(16);
        String before = picture(x, 3);
        for (int p : outOfRange(3)) {
            due("halt(" + p + ")", x.halt(p), BAD);
        }
        same("the object after refused halts", picture(x, 3), before);
        due("halt(1)", x.halt(1), OK);
        before = picture(x, 3);
        due("halt(1) again", x.halt(1), STOPPED);
        due("halt(1) once more", x.halt(1), STOPPED);
        same("the object after a halt of a halted one", picture(x, 3), before);
        due("phase(1)", x.phase(1), IDLE + HALTED);
    }

    private static void stopsForEver() {
        WaitFreeSnapshot x = busyPast(16);
        x.beginScan(0);
        x.run(0, 2);
        x.halt(0);
        String before = picture(x, 3);
        for (int i = 0; i < 20; i++) {
            due("run(0, 1)", x.run(0, 1), STOPPED);
            due("schedule(0)", x.schedule(0), 0);
            due("beginScan(0)", x.beginScan(0), STOPPED);
            due("beginUpdate(0, 1)", x.beginUpdate(0, 1), STOPPED);
        }
        same("the object after calls on a halted process", picture(x, 3), before);
        for (int i = 0; i < 6; i++) {
            update(x, 1, i);
        }
        due("run(0, 1) later", x.run(0, 1), STOPPED);
        due("phase(0) later", x.phase(0), SCANNING + HALTED);
    }

    private static void everythingElseStays() {
        WaitFreeSnapshot x = busyPast(16);
        x.beginUpdate(1, 55);
        x.run(1, 6);
        x.beginScan(2);
        x.run(2, 4);
        String memory = pictureOfMemory(x, 3);
        String others = pictureOfOthers(x, 3, 1);
        due("halt(1)", x.halt(1), OK);
        same("the registers after halt(1)", pictureOfMemory(x, 3), memory);
        same("the others after halt(1)", pictureOfOthers(x, 3, 1), others);
        due("phase(1)", x.phase(1), WRITING + HALTED);
        due("intent(1)", x.intent(1), 55);
        due("steps(1)", x.steps(1), 6);
        due("startedAt(1)", x.startedAt(1), 3);
        due("endedAt(1)", x.endedAt(1), 3);
        due("lender(1)", x.lender(1), CLEAN);
        due("version(SNAPSHOT, 1)", x.version(SNAPSHOT, 1), 3);
        due("value(SNAPSHOT, 1, 2)", x.value(SNAPSHOT, 1, 2), 30);
        due("count(READS, 1, 1)", x.count(READS, 1, 1), 2);

        WaitFreeSnapshot y = busyPast(16);
        due("halt(0)", y.halt(0), OK);
        due("movedIn(0, 1) of a finished scan", y.movedIn(0, 1), 2);
        due("version(SNAPSHOT, 0) of a finished scan", y.version(SNAPSHOT, 0), 2);
    }

    private static void haltedBeforeItsWriteNeverWrites() {
        WaitFreeSnapshot x = new WaitFreeSnapshot(3, 4);
        x.beginUpdate(0, 7);
        x.run(0, 6);
        x.halt(0);
        due("run(0, 1)", x.run(0, 1), STOPPED);
        due("schedule(0)", x.schedule(0), 0);
        due("count(MEMORY, 0, 0)", x.count(MEMORY, 0, 0), 0);
        for (int i = 0; i < 3; i++) {
            update(x, 1, i);
        }
        due("beginUpdate(1, 9): the halted one counts", x.beginUpdate(1, 9), FULL);
        due("version(MEMORY, 0)", x.version(MEMORY, 0), 3);
    }

    private static void othersGoOn() {
        WaitFreeSnapshot x = new WaitFreeSnapshot(3, 16);
        x.beginScan(0);
        x.run(0, 3);
        update(x, 1, 10);
        update(x, 1, 11);
        x.halt(1);
        due("run(0, 64): the register of a halted one lends", x.run(0, 64), 2);
        due("lender(0)", x.lender(0), 1);
        due("version(SNAPSHOT, 0)", x.version(SNAPSHOT, 0), 1);
        x.halt(2);
        x.beginScan(0);
        due("run(0, 64) with all others halted", x.run(0, 64), 6);
        due("value(SNAPSHOT, 0, 1)", x.value(SNAPSHOT, 0, 1), 11);
        due("halt(0)", x.halt(0), OK);
        for (int p = 0; p < 3; p++) {
            due("halt(" + p + ") when all are halted", x.halt(p), STOPPED);
        }
    }
}
