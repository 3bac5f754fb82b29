final class Promise05Schedule extends Check {
    public static void main(String[] args) {
        lowestFourBitsComeFirst();
        highestFourBitsAreANumberToo();
        numbersAboveTheLastDoNothing();
        idleAndHaltedDoNothing();
        stopsAtTheEndOfAnOperation();
        interleavesWritesAndReads();
        agreesWithRunOfOneStep();
        exampleOfTheReadme();
        finish();
    }

    private static void due(WaitFreeSnapshot x, int list, int want) {
        due("schedule(0x" + Integer.toHexString(list) + ")", x.schedule(list), want);
    }

    private static void lowestFourBitsComeFirst() {
        WaitFreeSnapshot x = new WaitFreeSnapshot(2, 4);
        x.beginUpdate(0, 5);
        x.run(0, 4);
        x.beginScan(1);
        due(x, 0xFFFFFF10, 2);
        due("count(READS, 1, 0): 0 wrote first", x.count(READS, 1, 0), 1);

        WaitFreeSnapshot y = new WaitFreeSnapshot(2, 4);
        y.beginUpdate(0, 5);
        y.run(0, 4);
        y.beginScan(1);
        due(y, 0xFFFFFF01, 2);
        due("count(READS, 1, 0): 1 read first", y.count(READS, 1, 0), 0);
    }

    private static void highestFourBitsAreANumberToo() {
        for (int p = 0; p < 6; p++) {
            WaitFreeSnapshot x = new WaitFreeSnapshot(6, 4);
            for (int q = 0; q < 6; q++) {
                x.beginScan(q);
            }
            due(x, (p << 28) | 0x0FFFFFFF, 1);
            for (int q = 0; q < 6; q++) {
                due("steps(" + q + ")", x.steps(q), q == p ? 1 : 0);
            }
        }
        WaitFreeSnapshot x = new WaitFreeSnapshot(6, 4);
        x.beginScan(0);
        due(x, LEAST_INT, 7);
        due(x, 0x80000000 | 0x0FFFFFF0, 1);
        due("steps(0)", x.steps(0), 8);
    }

    private static void numbersAboveTheLastDoNothing() {
        for (int n = 2; n <= 6; n++) {
            WaitFreeSnapshot x = new WaitFreeSnapshot(n, 4);
            for (int p = 0; p < n; p++) {
                x.beginScan(p);
            }
            String before = picture(x, n);
            for (int number = n; number < 16; number++) {
                due(x, number * 0x11111111, 0);
            }
            same("the object after lists of numbers above n-1", picture(x, n), before);
            due(x, 0x76543210, n);
            due(x, 0xFEDCBA98, 0);
            for (int p = 0; p < n; p++) {
                due("steps(" + p + ")", x.steps(p), 1);
            }
        }
    }

    private static void idleAndHaltedDoNothing() {
        WaitFreeSnapshot x = new WaitFreeSnapshot(4, 4);
        String before = picture(x, 4);
        due(x, 0x32103210, 0);
        due(x, 0, 0);
        due(x, -1, 0);
        same("a new object after schedule", picture(x, 4), before);
        x.beginScan(0);
        x.beginUpdate(1, 5);
        x.run(1, 8);
        x.beginScan(2);
        x.halt(1);
        x.halt(2);
        String halted = pictureOf(x, 4, 1) + pictureOf(x, 4, 2) + pictureOf(x, 4, 3);
        due(x, 0x32103210, 2);
        same("idle and halted ones", pictureOf(x, 4, 1) + pictureOf(x, 4, 2) + pictureOf(x, 4, 3), halted);
        due("steps(0)", x.steps(0), 2);
        due("version(MEMORY, 0)", x.version(MEMORY, 0), 0);
    }

    private static void stopsAtTheEndOfAnOperation() {
        WaitFreeSnapshot x = new WaitFreeSnapshot(2, 4);
        x.beginScan(0);
        due(x, 0x00000000, 4);
        x.beginUpdate(0, 3);
        x.beginScan(1);
        due(x, 0x10000000, 6);
        due("phase(0)", x.phase(0), IDLE);
        due("value(READS, 1, 0)", x.value(READS, 1, 0), 3);
        due("steps(1)", x.steps(1), 1);
        due(x, 0x11111111, 3);
        due("phase(1)", x.phase(1), IDLE);
        due(x, 0x11111111, 0);
    }

    private static void interleavesWritesAndReads() {
        WaitFreeSnapshot x = new WaitFreeSnapshot(3, 16);
        x.beginUpdate(0, 1);
        x.beginUpdate(1, 2);
        x.beginUpdate(2, 3);
        due(x, 0x10210210, 8);
        due(x, 0x02102102, 8);
        due("phase(0)", x.phase(0), WRITING);
        due("phase(1)", x.phase(1), UPDATING);
        due("phase(2)", x.phase(2), UPDATING);
        due(x, 0xFFFFF021, 3);
        due("version(MEMORY, 0)", x.version(MEMORY, 0), 1);
        due(x, 0xFFFFF012, 2);
        due("version(MEMORY, 0)", x.version(MEMORY, 0), 3);
        for (int p = 0; p < 3; p++) {
            due("version(HELD, " + p + ")", x.version(HELD, p), 0);
            due("steps(" + p + ")", x.steps(p), 7);
        }
    }

    private static void agreesWithRunOfOneStep() {
        WaitFreeSnapshot x = new WaitFreeSnapshot(5, 128);
        WaitFreeSnapshot y = new WaitFreeSnapshot(5, 128);
        int list = 1;
        for (int i = 0; i < 400; i++) {
            list = list * 1664525 + 1013904223;
            int p = (list >>> 16) % 5;
            due("beginUpdate", x.beginUpdate(p, i), y.beginUpdate(p, i));
            int taken = 0;
            for (int turn = 0; turn < 8; turn++) {
                int answer = y.run((list >>> (4 * turn)) & 15, 1);
                taken += answer == 1 ? 1 : 0;
            }
            due(x, list, taken);
            same("the object after schedule", picture(x, 5), picture(y, 5));
        }
    }

    private static void exampleOfTheReadme() {
        WaitFreeSnapshot x = new WaitFreeSnapshot(3, 16);
        due("beginUpdate(1, 10)", x.beginUpdate(1, 10), OK);
        due("run(1, 64)", x.run(1, 64), 7);
        due("beginScan(0)", x.beginScan(0), OK);
        due(x, 0xFFF00000, 5);
        due("run(0, 64)", x.run(0, 64), 1);
        due("value(SNAPSHOT, 0, 1)", x.value(SNAPSHOT, 0, 1), 10);
        due("version(SNAPSHOT, 0)", x.version(SNAPSHOT, 0), 1);
    }
}
