final class Promise04Run extends Check {
    public static void main(String[] args) {
        refusals();
        answersTheStepsTaken();
        readsInOrderOnePerStep();
        movesAreSeenFromCollectTwoOn();
        cleanViewIsTheOneBeforeTheLastCollect();
        oldMovesDoNotHinderACleanEnd();
        borrowsInTheMidstOfACollect();
        borrowsWhenTheMovesLieInTwoCollects();
        borrowsAtTheLastRegister();
        borrowsFromTheFirstOfTwo();
        borrowsWhatIsHeldAtThatMoment();
        doesNotBorrowForOldWrites();
        oneMoveEachIsNotTwo();
        writeStepTakesTheViewAlong();
        sameValueIsAWrite();
        longestReading();
        finish();
    }

    private static void refused(WaitFreeSnapshot x, int n, int p, int k, int want) {
        String before = picture(x, n);
        due("run(" + p + ", " + k + ")", x.run(p, k), want);
        same("the object after a refused run", picture(x, n), before);
    }

    private static void refusals() {
        WaitFreeSnapshot x = busyPast(16);
        x.beginScan(0);
        x.run(0, 2);
        x.beginUpdate(1, 7);
        x.halt(1);
        for (int p : outOfRange(3)) {
            refused(x, 3, p, 1, BAD);
        }
        int[] badSteps = {0, -1, -64, LEAST_INT};
        for (int k : badSteps) {
            refused(x, 3, 0, k, BAD);
            refused(x, 3, 1, k, BAD);
            refused(x, 3, 2, k, BAD);
            refused(x, 3, 3, k, BAD);
        }
        refused(x, 3, 1, 1, STOPPED);
        refused(x, 3, 2, 1, NO_WORK);
        x.halt(2);
        refused(x, 3, 2, 64, STOPPED);
        due("run(0, 1)", x.run(0, 1), 1);
        due("count(READS, 0, 2)", x.count(READS, 0, 2), 1);
        due("run(0, 64)", x.run(0, 64), 3);
        refused(x, 3, 0, 1, NO_WORK);
    }

    private static void answersTheStepsTaken() {
        int[] many = {64, 65, 1000, GREATEST_INT};
        for (int n = 2; n <= 6; n++) {
            for (int k : many) {
                WaitFreeSnapshot x = new WaitFreeSnapshot(n, 4);
                x.beginScan(0);
                due("run(0, " + k + ") of a scan alone", x.run(0, k), 2 * n);
                x.beginUpdate(n - 1, 3);
                due("run of an update alone", x.run(n - 1, k), 2 * n + 1);
            }
            WaitFreeSnapshot x = new WaitFreeSnapshot(n, 4);
            x.beginUpdate(0, 3);
            due("run(0, 2n - 1)", x.run(0, 2 * n - 1), 2 * n - 1);
            due("phase(0)", x.phase(0), UPDATING);
            due("run(0, 1)", x.run(0, 1), 1);
            due("phase(0)", x.phase(0), WRITING);
            due("run(0, 5)", x.run(0, 5), 1);
            due("phase(0)", x.phase(0), IDLE);
            due("steps(0)", x.steps(0), 2 * n + 1);
        }
    }

    private static void readsInOrderOnePerStep() {
        WaitFreeSnapshot x = busyPast(16);
        int[] counts = {0, 2, 1};
        x.beginScan(2);
        for (int step = 1; step <= 6; step++) {
            String memory = pictureOfMemory(x, 3);
            String others = pictureOfOthers(x, 3, 2);
            due("run(2, 1)", x.run(2, 1), 1);
            due("steps(2)", x.steps(2), step);
            for (int j = 0; j < 3; j++) {
                due("count(READS, 2, " + j + ") after step " + step, x.count(READS, 2, j), j < step ? counts[j] : NONE);
            }
            due("phase(2) after step " + step, x.phase(2), step < 6 ? SCANNING : IDLE);
            same("the registers after a read step", pictureOfMemory(x, 3), memory);
            same("the others after a read step", pictureOfOthers(x, 3, 2), others);
        }
    }

    private static void movesAreSeenFromCollectTwoOn() {
        WaitFreeSnapshot x = new WaitFreeSnapshot(3, 16);
        x.beginScan(0);
        x.run(0, 1);
        update(x, 1, 10);
        due("run(0, 2)", x.run(0, 2), 2);
        due("movedIn(0, 1): moved before its first read", x.movedIn(0, 1), 0);
        due("run(0, 64): collect 2 finds nothing moved", x.run(0, 64), 3);
        due("version(SNAPSHOT, 0)", x.version(SNAPSHOT, 0), 1);
        due("lender(0)", x.lender(0), CLEAN);

        x.beginScan(0);
        x.run(0, 2);
        update(x, 1, 11);
        due("run(0, 1)", x.run(0, 1), 1);
        due("movedIn(0, 1) in collect 1", x.movedIn(0, 1), 0);
        due("run(0, 2)", x.run(0, 2), 2);
        due("movedIn(0, 1) in collect 2", x.movedIn(0, 1), 2);
        due("run(0, 1): collect 2 is not clean", x.run(0, 1), 1);
        due("phase(0)", x.phase(0), SCANNING);
        due("endedAt(0)", x.endedAt(0), NONE);
        due("run(0, 64): collect 3 is", x.run(0, 64), 3);
        due("version(SNAPSHOT, 0)", x.version(SNAPSHOT, 0), 2);
    }

    private static void cleanViewIsTheOneBeforeTheLastCollect() {
        WaitFreeSnapshot x = new WaitFreeSnapshot(3, 16);
        update(x, 0, 1);
        x.beginScan(2);
        due("run(2, 1)", x.run(2, 1), 1);
        update(x, 1, 10);
        due("run(2, 2): the last read of collect 1", x.run(2, 2), 2);
        due("run(2, 2)", x.run(2, 2), 2);
        update(x, 0, 2);
        update(x, 0, 3);
        update(x, 1, 11);
        due("run(2, 1)", x.run(2, 1), 1);
        due("lender(2)", x.lender(2), CLEAN);
        due("startedAt(2)", x.startedAt(2), 1);
        due("endedAt(2)", x.endedAt(2), 5);
        due("version(SNAPSHOT, 2)", x.version(SNAPSHOT, 2), 2);
        int[] values = {1, 10, 0};
        int[] counts = {1, 1, 0};
        for (int j = 0; j < 3; j++) {
            due("value(SNAPSHOT, 2, " + j + ")", x.value(SNAPSHOT, 2, j), values[j]);
            due("count(SNAPSHOT, 2, " + j + ")", x.count(SNAPSHOT, 2, j), counts[j]);
            due("value(READS, 2, " + j + ")", x.value(READS, 2, j), values[j]);
            due("count(READS, 2, " + j + ")", x.count(READS, 2, j), counts[j]);
        }
    }

    private static void oldMovesDoNotHinderACleanEnd() {
        WaitFreeSnapshot x = new WaitFreeSnapshot(3, 16);
        x.beginScan(0);
        x.run(0, 3);
        update(x, 2, 20);
        x.run(0, 3);
        update(x, 1, 10);
        due("run(0, 3): collect 3 sees 1 move", x.run(0, 3), 3);
        due("phase(0)", x.phase(0), SCANNING);
        due("movedIn(0, 2)", x.movedIn(0, 2), 2);
        due("movedIn(0, 1)", x.movedIn(0, 1), 3);
        due("run(0, 64)", x.run(0, 64), 3);
        due("lender(0)", x.lender(0), CLEAN);
        due("version(SNAPSHOT, 0)", x.version(SNAPSHOT, 0), 2);
        due("steps(0)", x.steps(0), 12);
        due("movedIn(0, 2) after the end", x.movedIn(0, 2), 2);
    }

    private static void borrowsInTheMidstOfACollect() {
        WaitFreeSnapshot x = new WaitFreeSnapshot(4, 16);
        x.beginScan(0);
        x.run(0, 4);
        update(x, 1, 10);
        update(x, 1, 11);
        due("run(0, 64)", x.run(0, 64), 2);
        due("phase(0)", x.phase(0), IDLE);
        due("lender(0)", x.lender(0), 1);
        due("endedAt(0)", x.endedAt(0), 2);
        due("version(SNAPSHOT, 0): that of 1's second update", x.version(SNAPSHOT, 0), 1);
        due("value(SNAPSHOT, 0, 1)", x.value(SNAPSHOT, 0, 1), 10);
        due("value(READS, 0, 1)", x.value(READS, 0, 1), 11);
        due("count(READS, 0, 1)", x.count(READS, 0, 1), 2);
        due("count(READS, 0, 2)", x.count(READS, 0, 2), 0);
        due("movedIn(0, 1)", x.movedIn(0, 1), 2);
        due("steps(0)", x.steps(0), 6);

        x.beginUpdate(0, 5);
        x.run(0, 4);
        update(x, 1, 12);
        update(x, 1, 13);
        update(x, 1, 14);
        due("run(0, 64) of an update: two reads and the write", x.run(0, 64), 3);
        due("lender(0)", x.lender(0), 1);
        due("version(HELD, 0)", x.version(HELD, 0), 4);
        due("value(HELD, 0, 1)", x.value(HELD, 0, 1), 13);
    }

    private static void borrowsWhenTheMovesLieInTwoCollects() {
        WaitFreeSnapshot x = new WaitFreeSnapshot(3, 16);
        x.beginScan(0);
        x.run(0, 3);
        update(x, 1, 10);
        x.run(0, 3);
        update(x, 2, 20);
        x.run(0, 3);
        update(x, 1, 11);
        due("run(0, 64): the second move is read in collect 4", x.run(0, 64), 2);
        due("lender(0)", x.lender(0), 1);
        due("movedIn(0, 1)", x.movedIn(0, 1), 4);
        due("movedIn(0, 2)", x.movedIn(0, 2), 3);
        due("version(SNAPSHOT, 0)", x.version(SNAPSHOT, 0), 2);
        due("steps(0)", x.steps(0), 11);
    }

    private static void borrowsAtTheLastRegister() {
        WaitFreeSnapshot x = new WaitFreeSnapshot(2, 16);
        x.beginScan(0);
        x.run(0, 3);
        update(x, 1, 10);
        update(x, 1, 11);
        due("run(0, 64)", x.run(0, 64), 1);
        due("lender(0)", x.lender(0), 1);
        due("version(SNAPSHOT, 0)", x.version(SNAPSHOT, 0), 1);
    }

    private static void borrowsFromTheFirstOfTwo() {
        WaitFreeSnapshot x = new WaitFreeSnapshot(4, 16);
        x.beginScan(3);
        x.run(3, 4);
        for (int p = 2; p >= 1; p--) {
            update(x, p, 1);
            update(x, p, 2);
        }
        due("run(3, 64)", x.run(3, 64), 2);
        due("lender(3)", x.lender(3), 1);
        due("movedIn(3, 1)", x.movedIn(3, 1), 2);
        due("movedIn(3, 2): not read in collect 2", x.movedIn(3, 2), 0);
        due("version(SNAPSHOT, 3)", x.version(SNAPSHOT, 3), 3);
    }

    private static void borrowsWhatIsHeldAtThatMoment() {
        WaitFreeSnapshot x = new WaitFreeSnapshot(3, 16);
        x.beginScan(0);
        x.run(0, 3);
        for (int i = 1; i <= 5; i++) {
            update(x, 2, i);
        }
        due("run(0, 2)", x.run(0, 2), 2);
        update(x, 1, 9);
        x.beginUpdate(2, 6);
        x.run(2, 6);
        due("run(0, 1)", x.run(0, 1), 1);
        due("lender(0)", x.lender(0), 2);
        due("version(SNAPSHOT, 0)", x.version(SNAPSHOT, 0), 4);
        due("endedAt(0)", x.endedAt(0), 6);
        due("run(2, 1)", x.run(2, 1), 1);
        due("version(HELD, 2)", x.version(HELD, 2), 6);
        due("version(SNAPSHOT, 0) stays", x.version(SNAPSHOT, 0), 4);
        due("value(SNAPSHOT, 0, 1) stays", x.value(SNAPSHOT, 0, 1), 0);
        due("value(SNAPSHOT, 0, 2) stays", x.value(SNAPSHOT, 0, 2), 4);
    }

    private static void doesNotBorrowForOldWrites() {
        WaitFreeSnapshot x = new WaitFreeSnapshot(2, 16);
        for (int i = 1; i <= 5; i++) {
            update(x, 1, i);
        }
        x.beginScan(0);
        x.run(0, 1);
        update(x, 1, 6);
        update(x, 1, 7);
        due("run(0, 64): both came before the first read of 1", x.run(0, 64), 3);
        due("lender(0)", x.lender(0), CLEAN);
        due("version(SNAPSHOT, 0)", x.version(SNAPSHOT, 0), 7);
    }

    private static void oneMoveEachIsNotTwo() {
        WaitFreeSnapshot x = new WaitFreeSnapshot(4, 16);
        x.beginScan(0);
        x.run(0, 4);
        for (int p = 1; p < 4; p++) {
            update(x, p, p);
        }
        due("run(0, 4)", x.run(0, 4), 4);
        due("phase(0)", x.phase(0), SCANNING);
        due("run(0, 64)", x.run(0, 64), 4);
        due("lender(0)", x.lender(0), CLEAN);
        due("version(SNAPSHOT, 0)", x.version(SNAPSHOT, 0), 3);
        for (int p = 1; p < 4; p++) {
            due("movedIn(0, " + p + ")", x.movedIn(0, p), 2);
        }
    }

    private static void writeStepTakesTheViewAlong() {
        WaitFreeSnapshot x = busyPast(16);
        x.beginUpdate(1, 99);
        x.run(1, 3);
        update(x, 0, 5);
        due("run(1, 6): collects 2 and 3", x.run(1, 6), 6);
        due("phase(1)", x.phase(1), WRITING);
        update(x, 2, 31);
        String others = pictureOfOthers(x, 3, 1);
        String first = pictureOfRegister(x, 3, 0);
        String third = pictureOfRegister(x, 3, 2);
        due("version(HELD, 1) before the write", x.version(HELD, 1), 2);
        due("run(1, 3)", x.run(1, 3), 1);
        same("the others after a write step", pictureOfOthers(x, 3, 1), others);
        same("register 0 after a write step by 1", pictureOfRegister(x, 3, 0), first);
        same("register 2 after a write step by 1", pictureOfRegister(x, 3, 2), third);
        due("version(MEMORY, 0)", x.version(MEMORY, 0), 6);
        due("value(MEMORY, 0, 1)", x.value(MEMORY, 0, 1), 99);
        due("count(MEMORY, 0, 1)", x.count(MEMORY, 0, 1), 3);
        due("version(HELD, 1)", x.version(HELD, 1), 4);
        due("value(HELD, 1, 1)", x.value(HELD, 1, 1), 11);
        due("phase(1)", x.phase(1), IDLE);
        due("steps(1)", x.steps(1), 10);
        due("startedAt(1)", x.startedAt(1), 3);
        due("endedAt(1)", x.endedAt(1), 4);
        due("lender(1)", x.lender(1), CLEAN);
        due("movedIn(1, 0)", x.movedIn(1, 0), 2);
        due("version(SNAPSHOT, 1)", x.version(SNAPSHOT, 1), 4);
        due("value(READS, 1, 1): its own old value", x.value(READS, 1, 1), 11);
        due("value(READS, 1, 0)", x.value(READS, 1, 0), 5);
    }

    private static void sameValueIsAWrite() {
        WaitFreeSnapshot x = new WaitFreeSnapshot(2, 16);
        x.beginScan(0);
        x.run(0, 2);
        update(x, 1, 0);
        due("version(MEMORY, 0)", x.version(MEMORY, 0), 1);
        due("count(MEMORY, 0, 1)", x.count(MEMORY, 0, 1), 1);
        x.run(0, 2);
        due("movedIn(0, 1)", x.movedIn(0, 1), 2);
        due("phase(0)", x.phase(0), SCANNING);
        update(x, 1, 0);
        due("run(0, 64)", x.run(0, 64), 2);
        due("lender(0)", x.lender(0), 1);
    }

    private static void longestReading() {
        for (int n = 2; n <= 6; n++) {
            WaitFreeSnapshot x = new WaitFreeSnapshot(n, 16);
            x.beginUpdate(0, 5);
            for (int p = n - 1; p >= 1; p--) {
                due("a whole collect", x.run(0, n), n);
                update(x, p, p);
            }
            due("steps(0)", x.steps(0), n * (n - 1));
            due("the last two collects and the write", x.run(0, 64), 2 * n + 1);
            due("lender(0)", x.lender(0), CLEAN);
            for (int p = n - 1; p >= 1; p--) {
                due("movedIn(0, " + p + ")", x.movedIn(0, p), n - p + 1);
            }
            due("version(HELD, 0)", x.version(HELD, 0), n - 1);
        }
    }
}
