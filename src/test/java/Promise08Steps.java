final class Promise08Steps extends Check {
    public static void main(String[] args) {
        countsReadsAndTheWrite();
        startsAnewWithEachOperation();
        outOfRangeIsBad();
        finish();
    }

    private static void countsReadsAndTheWrite() {
        WaitFreeSnapshot x = new WaitFreeSnapshot(3, 4);
        due("steps(0) at first", x.steps(0), 0);
        x.beginUpdate(0, 5);
        for (int step = 1; step <= 7; step++) {
            due("run(0, 1)", x.run(0, 1), 1);
            due("steps(0)", x.steps(0), step);
            due("steps(1)", x.steps(1), 0);
        }
        due("run(0, 1)", x.run(0, 1), NO_WORK);
        due("steps(0) after a refused run", x.steps(0), 7);
        due("schedule(0)", x.schedule(0), 0);
        due("steps(0) after a schedule without effect", x.steps(0), 7);
    }

    private static void startsAnewWithEachOperation() {
        WaitFreeSnapshot x = busyPast(16);
        due("steps(0) of a finished scan", x.steps(0), 9);
        due("steps(1) of a finished update", x.steps(1), 7);
        x.beginScan(1);
        due("steps(1) of a scan just begun", x.steps(1), 0);
        x.schedule(0xFFFFF111);
        due("steps(1)", x.steps(1), 3);
        due("steps(0)", x.steps(0), 9);
        x.halt(1);
        due("steps(1) halted", x.steps(1), 3);
    }

    private static void outOfRangeIsBad() {
        for (int n = 2; n <= 6; n++) {
            for (int p : outOfRange(n)) {
                due("steps(" + p + ")", new WaitFreeSnapshot(n, 4).steps(p), BAD);
            }
        }
    }
}
