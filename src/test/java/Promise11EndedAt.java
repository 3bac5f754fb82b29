final class Promise11EndedAt extends Check {
    public static void main(String[] args) {
        tellsTheWritesAtTheEndOfTheReading();
        borrowedReadingEndsToo();
        outOfRangeIsBad();
        finish();
    }

    private static void tellsTheWritesAtTheEndOfTheReading() {
        WaitFreeSnapshot x = new WaitFreeSnapshot(2, 16);
        due("endedAt(0) of one that began nothing", x.endedAt(0), NONE);
        x.beginUpdate(0, 5);
        due("endedAt(0) just begun", x.endedAt(0), NONE);
        update(x, 1, 1);
        x.run(0, 3);
        due("endedAt(0) in the midst", x.endedAt(0), NONE);
        update(x, 1, 2);
        due("run(0, 1) sees 1 move", x.run(0, 1), 1);
        due("endedAt(0)", x.endedAt(0), NONE);
        due("run(0, 2)", x.run(0, 2), 2);
        due("endedAt(0)", x.endedAt(0), 2);
        due("phase(0)", x.phase(0), WRITING);
        update(x, 1, 3);
        due("endedAt(0) stays after writes of others", x.endedAt(0), 2);
        x.run(0, 1);
        due("endedAt(0) does not count its own write", x.endedAt(0), 2);
        x.beginScan(0);
        due("endedAt(0) of the next", x.endedAt(0), NONE);
        x.run(0, 64);
        due("endedAt(0) of the next, finished", x.endedAt(0), 4);
        x.beginScan(1);
        x.run(1, 3);
        x.halt(1);
        due("endedAt(1) halted before the end", x.endedAt(1), NONE);
        x.halt(0);
        due("endedAt(0) halted after the end", x.endedAt(0), 4);
    }

    private static void borrowedReadingEndsToo() {
        WaitFreeSnapshot x = new WaitFreeSnapshot(3, 16);
        x.beginScan(2);
        x.run(2, 3);
        for (int i = 0; i < 3; i++) {
            update(x, 0, i);
        }
        x.run(2, 1);
        due("endedAt(2), later than the version", x.endedAt(2), 3);
        due("version(SNAPSHOT, 2)", x.version(SNAPSHOT, 2), 2);
    }

    private static void outOfRangeIsBad() {
        for (int n = 2; n <= 6; n++) {
            for (int p : outOfRange(n)) {
                due("endedAt(" + p + ")", new WaitFreeSnapshot(n, 4).endedAt(p), BAD);
            }
        }
    }
}
