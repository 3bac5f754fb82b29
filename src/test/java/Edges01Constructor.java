/** The edges that promise 1 names. */
final class Edges01Constructor extends Check {
    private static final int[] PROCESSES = {LEAST_INT, LEAST_INT + 1, -3, -1, 0, 1, 2, 3, 4, 5, 6, 7, 8, 64, 65538,
        GREATEST_INT - 1, GREATEST_INT};
    private static final int[] SIZES = {2, 2, 2, 2, 2, 2, 2, 3, 4, 5, 6, 6, 6, 6, 6, 6, 6};
    private static final int[] LIMITS = {LEAST_INT, LEAST_INT + 1, -64, -1, 0, 1, 2, 3, 4, 5, 6, 127, 128, 129, 130, 256,
        65540, GREATEST_INT - 1, GREATEST_INT};
    private static final int[] MOST = {4, 4, 4, 4, 4, 4, 4, 4, 4, 5, 6, 127, 128, 128, 128, 128, 128, 128, 128};

    public static void main(String[] args) {
        everyPairIsAccepted();
        processesBelowTheLeast();
        processesAboveTheGreatest();
        processesBetweenStay();
        limitBelowTheLeast();
        limitAboveTheGreatest();
        limitBetweenStays();
        theTwoAreNotMixedUp();
        theSizeNeverChanges();
        theLimitNeverChanges();
        noWriteAtFirst();
        nothingBegunAtFirst();
        noOneHaltedAtFirst();
        allIdleAtFirst();
        registersAtFirst();
        largestObjectHoldsAllItsWrites();
        finish();
    }

    private static int sizeOf(WaitFreeSnapshot x) {
        int n = 0;
        while (n < 100 && x.phase(n) != BAD) {
            n++;
        }
        return n;
    }

    private static int limitOf(WaitFreeSnapshot x) {
        int made = 0;
        while (made < 1000 && x.beginUpdate(1, made) == OK) {
            x.run(1, 64);
            made++;
        }
        due("the answer that ends the updates", x.beginUpdate(1, made), FULL);
        return made;
    }

    private static void size(int processes, int want) {
        due("n of new(" + processes + ", 16)", sizeOf(new WaitFreeSnapshot(processes, 16)), want);
    }

    private static void limit(int limit, int want) {
        for (int n = 2; n <= 6; n++) {
            due("limit of new(" + n + ", " + limit + ")", limitOf(new WaitFreeSnapshot(n, limit)), want);
        }
    }

    private static void everyPairIsAccepted() {
        sentence("the constructor accepts every pair of ints");
        for (int i = 0; i < PROCESSES.length; i++) {
            for (int k = 0; k < LIMITS.length; k++) {
                WaitFreeSnapshot x = new WaitFreeSnapshot(PROCESSES[i], LIMITS[k]);
                String of = " of new(" + PROCESSES[i] + ", " + LIMITS[k] + ")";
                due("n" + of, sizeOf(x), SIZES[i]);
                due("limit" + of, limitOf(x), MOST[k]);
            }
        }
    }

    private static void processesBelowTheLeast() {
        sentence("n is processes clamped: a number below 2 becomes 2");
        size(1, 2);
        size(0, 2);
        size(-1, 2);
        size(-6, 2);
        size(LEAST_INT, 2);
    }

    private static void processesAboveTheGreatest() {
        sentence("n is processes clamped: a number above 6 becomes 6");
        size(7, 6);
        size(8, 6);
        size(256 + 3, 6);
        size(65536 + 3, 6);
        size(GREATEST_INT, 6);
    }

    private static void processesBetweenStay() {
        sentence("n is processes clamped to 2 .. 6: the least, the greatest and those between stay");
        for (int n = 2; n <= 6; n++) {
            size(n, n);
        }
    }

    private static void limitBelowTheLeast() {
        sentence("the limit is clamped: a number below 4 becomes 4");
        limit(3, 4);
        limit(1, 4);
        limit(0, 4);
        limit(-1, 4);
        limit(-128, 4);
        limit(LEAST_INT, 4);
    }

    private static void limitAboveTheGreatest() {
        sentence("the limit is clamped: a number above 128 becomes 128");
        limit(129, 128);
        limit(256 + 5, 128);
        limit(65536 + 5, 128);
        limit(GREATEST_INT, 128);
    }

    private static void limitBetweenStays() {
        sentence("the limit is clamped to 4 .. 128: the least, the greatest and those between stay");
        for (int limit = 4; limit <= 128; limit++) {
            limit(limit, limit);
        }
    }

    private static void theTwoAreNotMixedUp() {
        sentence("the first argument is the number of processes, the second the limit");
        WaitFreeSnapshot x = new WaitFreeSnapshot(128, 2);
        due("n of new(128, 2)", sizeOf(x), 6);
        due("limit of new(128, 2)", limitOf(x), 4);
        WaitFreeSnapshot y = new WaitFreeSnapshot(4, 6);
        due("n of new(4, 6)", sizeOf(y), 4);
        due("limit of new(4, 6)", limitOf(y), 6);
    }

    private static void theSizeNeverChanges() {
        sentence("n does not change afterwards");
        for (int n = 2; n <= 6; n++) {
            WaitFreeSnapshot x = new WaitFreeSnapshot(n, 4);
            due("updates", limitOf(x), 4);
            due("n when full", sizeOf(x), n);
            for (int p = 0; p < n; p++) {
                x.halt(p);
                due("n after halt(" + p + ")", sizeOf(x), n);
            }
            x.halt(n);
            due("n after halt(n)", sizeOf(x), n);
        }
    }

    private static void theLimitNeverChanges() {
        sentence("the limit does not change afterwards");
        WaitFreeSnapshot x = new WaitFreeSnapshot(3, 5);
        for (int i = 0; i < 5; i++) {
            x.beginScan(0);
            x.run(0, 64);
            update(x, 1, i);
            x.beginUpdate(7, 1);
        }
        x.halt(1);
        for (int i = 0; i < 300; i++) {
            due("beginUpdate(0, " + i + ") after five", x.beginUpdate(0, i), FULL);
            x.beginScan(0);
            x.run(0, 64);
        }
    }

    private static void noWriteAtFirst() {
        sentence("at first no write has been made");
        for (int n = 2; n <= 6; n++) {
            WaitFreeSnapshot x = new WaitFreeSnapshot(n, 4);
            for (int i = 0; i < n; i++) {
                due("version(MEMORY, " + i + ")", x.version(MEMORY, i), 0);
                for (int j = 0; j < n; j++) {
                    due("value(MEMORY, " + i + ", " + j + ")", x.value(MEMORY, i, j), 0);
                    due("count(MEMORY, " + i + ", " + j + ")", x.count(MEMORY, i, j), 0);
                }
            }
            x.beginScan(n - 1);
            due("startedAt of a first scan", x.startedAt(n - 1), 0);
            due("run of a first scan", x.run(n - 1, 64), 2 * n);
            due("version of a first scan", x.version(SNAPSHOT, n - 1), 0);
        }
    }

    private static void nothingBegunAtFirst() {
        sentence("at first nothing has been begun");
        for (int n = 2; n <= 6; n++) {
            for (int p = 0; p < n; p++) {
                WaitFreeSnapshot x = new WaitFreeSnapshot(n, 4);
                due("run(" + p + ", 1)", x.run(p, 1), NO_WORK);
                due("steps(" + p + ")", x.steps(p), 0);
                due("intent(" + p + ")", x.intent(p), 0);
                due("startedAt(" + p + ")", x.startedAt(p), NONE);
                due("endedAt(" + p + ")", x.endedAt(p), NONE);
                due("lender(" + p + ")", x.lender(p), NONE);
                due("version(SNAPSHOT, " + p + ")", x.version(SNAPSHOT, p), NONE);
                for (int j = 0; j < n; j++) {
                    due("movedIn(" + p + ", " + j + ")", x.movedIn(p, j), 0);
                    due("count(SNAPSHOT, " + p + ", " + j + ")", x.count(SNAPSHOT, p, j), NONE);
                    due("count(READS, " + p + ", " + j + ")", x.count(READS, p, j), NONE);
                }
            }
            due("schedule of all", new WaitFreeSnapshot(n, 4).schedule(0x76543210), 0);
        }
    }

    private static void noOneHaltedAtFirst() {
        sentence("at first no process is halted");
        for (int n = 2; n <= 6; n++) {
            WaitFreeSnapshot x = new WaitFreeSnapshot(n, 4);
            for (int p = 0; p < n; p++) {
                due("halt(" + p + ")", x.halt(p), OK);
            }
        }
    }

    private static void allIdleAtFirst() {
        sentence("at first all processes are IDLE");
        for (int n = 2; n <= 6; n++) {
            for (int p = 0; p < n; p++) {
                due("phase(" + p + ")", new WaitFreeSnapshot(n, 4).phase(p), IDLE);
                due("beginScan(" + p + ")", new WaitFreeSnapshot(n, 4).beginScan(p), OK);
                due("beginUpdate(" + p + ", 1)", new WaitFreeSnapshot(n, 4).beginUpdate(p, 1), OK);
            }
        }
    }

    private static void registersAtFirst() {
        sentence("at first every register holds value 0, count 0, and version 0 of the array as its view");
        for (int n = 2; n <= 6; n++) {
            WaitFreeSnapshot x = new WaitFreeSnapshot(n, 4);
            for (int i = 0; i < n; i++) {
                due("value(MEMORY, 0, " + i + ")", x.value(MEMORY, 0, i), 0);
                due("count(MEMORY, 0, " + i + ")", x.count(MEMORY, 0, i), 0);
                due("version(HELD, " + i + ")", x.version(HELD, i), 0);
                for (int j = 0; j < n; j++) {
                    due("value(HELD, " + i + ", " + j + ")", x.value(HELD, i, j), 0);
                    due("count(HELD, " + i + ", " + j + ")", x.count(HELD, i, j), 0);
                }
            }
        }
    }

    private static void largestObjectHoldsAllItsWrites() {
        sentence("the greatest n with the greatest limit: every one of the 128 writes is made and told");
        WaitFreeSnapshot x = new WaitFreeSnapshot(GREATEST_INT, GREATEST_INT);
        int[] values = new int[6];
        int[] counts = new int[6];
        for (int w = 1; w <= 128; w++) {
            int p = w * 5 % 6;
            due("steps of update " + w, update(x, p, w * 1000003), 13);
            values[p] = w * 1000003;
            counts[p]++;
            x.beginScan(5 - p);
            due("steps of the scan after it", x.run(5 - p, 64), 12);
            due("its version", x.version(SNAPSHOT, 5 - p), w);
            for (int j = 0; j < 6; j++) {
                due("value " + j + " in version " + w, x.value(SNAPSHOT, 5 - p, j), values[j]);
                due("count " + j + " in version " + w, x.count(SNAPSHOT, 5 - p, j), counts[j]);
            }
        }
        due("the update after them", x.beginUpdate(0, 1), FULL);
    }
}
