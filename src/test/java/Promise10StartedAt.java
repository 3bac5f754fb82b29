final class Promise10StartedAt extends Check {
    public static void main(String[] args) {
        tellsTheWritesBefore();
        outOfRangeIsBad();
        finish();
    }

    private static void tellsTheWritesBefore() {
        WaitFreeSnapshot x = new WaitFreeSnapshot(3, 16);
        due("startedAt(0) of one that began nothing", x.startedAt(0), NONE);
        x.beginScan(0);
        due("startedAt(0)", x.startedAt(0), 0);
        update(x, 1, 1);
        update(x, 2, 2);
        due("startedAt(0) after writes of others", x.startedAt(0), 0);
        due("startedAt(1)", x.startedAt(1), 0);
        due("startedAt(2)", x.startedAt(2), 1);
        x.run(0, 64);
        due("startedAt(0) after the end", x.startedAt(0), 0);
        x.beginUpdate(0, 3);
        due("startedAt(0) of the next", x.startedAt(0), 2);
        due("beginScan(0)", x.beginScan(0), BUSY);
        update(x, 1, 4);
        due("beginScan(0)", x.beginScan(0), BUSY);
        due("startedAt(0) after refused calls", x.startedAt(0), 2);
        x.run(0, 64);
        due("startedAt(0) after its own write", x.startedAt(0), 2);
        x.beginScan(0);
        due("startedAt(0): its own write counts for the next", x.startedAt(0), 4);
        x.halt(0);
        due("startedAt(0) halted", x.startedAt(0), 4);
    }

    private static void outOfRangeIsBad() {
        for (int n = 2; n <= 6; n++) {
            WaitFreeSnapshot x = new WaitFreeSnapshot(n, 4);
            for (int p : outOfRange(n)) {
                due("startedAt(" + p + ")", x.startedAt(p), BAD);
            }
            x.halt(n - 1);
            due("startedAt of one halted before it began", x.startedAt(n - 1), NONE);
        }
    }
}
