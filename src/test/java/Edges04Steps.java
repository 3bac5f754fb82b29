/** The edges that promise 4 names for a read step and a write step. */
final class Edges04Steps extends Check {
    public static void main(String[] args) {
        collectsReadInOrder();
        theOwnRegisterIsReadToo();
        noMoveInTheFirstCollect();
        equalCountIsNoMove();
        oneMoreIsAMoveButNoLoan();
        twoMoreEndTheReading();
        moreThanTwoMoreEndTheReading();
        twoMoreThanInTheFirstCollect();
        writesBeforeTheFirstReadDoNotCount();
        endsInTheMidstOfACollect();
        nothingIsReadAfterTheEnd();
        endsAtTheLastReadByBorrowing();
        endsAtTheLastReadClean();
        neverEndsInTheFirstCollect();
        aMoveOfAnyRegisterHindersTheCleanEnd();
        aMoveInAnEarlierCollectDoesNotHinder();
        theCleanViewIsOlderThanTheLastCollect();
        theBorrowedViewIsTheOneHeldNow();
        endOfAScanAndOfAnUpdate();
        readStepChangesNothingElse();
        writeStepChangesOnlyItsRegister();
        whatStaysAtTheWriteStep();
        writeOfTheOldValue();
        finish();
    }

    private static WaitFreeSnapshot begun(int n, int p, boolean update) {
        WaitFreeSnapshot x = new WaitFreeSnapshot(n, 128);
        due("the begin by " + p, update ? x.beginUpdate(p, 77) : x.beginScan(p), OK);
        return x;
    }

    private static int otherThan(int p, int n) {
        return (p + 1) % n;
    }

    private static void collectsReadInOrder() {
        sentence("each collect reads the registers 0, 1, .. n-1 in this order, one per step");
        for (int n = 2; n <= 6; n++) {
            for (int p = 0; p < n; p++) {
                WaitFreeSnapshot x = begun(n, p, false);
                for (int step = 1; step <= n; step++) {
                    due("run", x.run(p, 1), 1);
                    for (int j = 0; j < n; j++) {
                        due("count(READS, " + p + ", " + j + ") after " + step, x.count(READS, p, j), j < step ? 0 : NONE);
                    }
                }
                collectTwoReadsInOrder(x, n, p);
            }
        }
    }

    /** All others write once, so that each read of collect 2 shows. */
    private static void collectTwoReadsInOrder(WaitFreeSnapshot x, int n, int p) {
        for (int q = 0; q < n; q++) {
            if (q != p) {
                update(x, q, 1);
            }
        }
        for (int step = 1; step <= n; step++) {
            due("run", x.run(p, 1), 1);
            for (int j = 0; j < n; j++) {
                due("count(READS, " + p + ", " + j + ") in collect 2 after " + step,
                        x.count(READS, p, j), j < step && j != p ? 1 : 0);
            }
        }
    }

    private static void theOwnRegisterIsReadToo() {
        sentence("each collect reads p's own register too");
        for (int n = 2; n <= 6; n++) {
            for (int p = 0; p < n; p++) {
                WaitFreeSnapshot x = new WaitFreeSnapshot(n, 16);
                update(x, p, 5);
                x.beginScan(p);
                due("run to before it", p == 0 ? 0 : x.run(p, p), p);
                due("count(READS) of it before", x.count(READS, p, p), NONE);
                due("run(" + p + ", 1)", x.run(p, 1), 1);
                due("count(READS) of it after", x.count(READS, p, p), 1);
                due("value(READS) of it after", x.value(READS, p, p), 5);
            }
        }
    }

    private static void noMoveInTheFirstCollect() {
        sentence("if c >= 2: in collect 1 movedIn stays 0 and nothing is borrowed, however often j writes");
        for (int n = 2; n <= 6; n++) {
            for (int j = 1; j < n; j++) {
                WaitFreeSnapshot x = begun(n, 0, false);
                x.run(0, j);
                for (int i = 0; i < 3; i++) {
                    update(x, j, i);
                }
                due("run(0, 1) reads " + j, x.run(0, 1), 1);
                due("count(READS, 0, " + j + ")", x.count(READS, 0, j), 3);
                due("movedIn(0, " + j + ")", x.movedIn(0, j), 0);
                due("lender(0)", x.lender(0), NONE);
                due("phase(0)", x.phase(0), SCANNING);
                due("run(0, 64) to the end of collect 2", x.run(0, 64), 2 * n - j - 1);
                due("lender(0)", x.lender(0), CLEAN);
            }
        }
    }

    private static void equalCountIsNoMove() {
        sentence("q greater than the count found in collect c-1: an equal one is no move");
        for (int n = 2; n <= 6; n++) {
            WaitFreeSnapshot x = new WaitFreeSnapshot(n, 16);
            for (int p = 0; p < n; p++) {
                update(x, p, 5);
            }
            x.beginScan(0);
            due("run(0, 64)", x.run(0, 64), 2 * n);
            for (int j = 0; j < n; j++) {
                due("movedIn(0, " + j + ")", x.movedIn(0, j), 0);
            }
        }
    }

    /** Process p has read collect 1, then j makes so many updates; p reads on up to j. */
    private static WaitFreeSnapshot movedBy(int n, int p, int j, int updates, boolean update) {
        WaitFreeSnapshot x = begun(n, p, update);
        x.run(p, n);
        for (int i = 1; i <= updates; i++) {
            update(x, j, i);
        }
        due("run(p, j + 1)", x.run(p, j + 1), j + 1);
        return x;
    }

    private static void oneMoreIsAMoveButNoLoan() {
        sentence("a count greater by 1 is a move in collect c, but not at least 2 more: the reading goes on");
        for (int n = 2; n <= 6; n++) {
            for (int j = 1; j < n; j++) {
                WaitFreeSnapshot x = movedBy(n, 0, j, 1, false);
                due("movedIn(0, " + j + ")", x.movedIn(0, j), 2);
                due("phase(0)", x.phase(0), SCANNING);
                due("lender(0)", x.lender(0), NONE);
                due("run(0, 64) to the end of collect 3", x.run(0, 64), 2 * n - j - 1);
                due("lender(0)", x.lender(0), CLEAN);
                due("movedIn(0, " + j + ")", x.movedIn(0, j), 2);
            }
        }
    }

    private static void twoMoreEndTheReading() {
        sentence("q at least 2 more than in collect 1: exactly 2 more end the reading");
        for (int n = 2; n <= 6; n++) {
            for (int j = 1; j < n; j++) {
                WaitFreeSnapshot x = movedBy(n, 0, j, 2, false);
                due("phase(0)", x.phase(0), IDLE);
                due("lender(0)", x.lender(0), j);
                due("movedIn(0, " + j + ")", x.movedIn(0, j), 2);
                due("endedAt(0)", x.endedAt(0), 2);
                due("version(SNAPSHOT, 0)", x.version(SNAPSHOT, 0), 1);
            }
        }
    }

    private static void moreThanTwoMoreEndTheReading() {
        sentence("q at least 2 more than in collect 1: 3 or many more end the reading as well");
        for (int updates = 3; updates <= 128; updates += 25) {
            WaitFreeSnapshot x = movedBy(3, 0, 1, updates, false);
            due("phase(0)", x.phase(0), IDLE);
            due("lender(0)", x.lender(0), 1);
            due("endedAt(0)", x.endedAt(0), updates);
            due("version(SNAPSHOT, 0)", x.version(SNAPSHOT, 0), updates - 1);
        }
    }

    private static void twoMoreThanInTheFirstCollect() {
        sentence("2 more than the count found in collect 1, not in collect c-1");
        for (int n = 2; n <= 6; n++) {
            for (int j = 1; j < n; j++) {
                WaitFreeSnapshot x = movedBy(n, 0, j, 1, false);
                due("the rest of collect 2", j == n - 1 ? 0 : x.run(0, n - 1 - j), n - 1 - j);
                update(x, j, 2);
                due("run(0, 64) in collect 3", x.run(0, 64), j + 1);
                due("lender(0)", x.lender(0), j);
                due("movedIn(0, " + j + ")", x.movedIn(0, j), 3);
                due("steps(0)", x.steps(0), 2 * n + j + 1);
            }
        }
    }

    private static void writesBeforeTheFirstReadDoNotCount() {
        sentence("2 more than found by this operation's own read in collect 1: older writes do not count");
        WaitFreeSnapshot x = new WaitFreeSnapshot(3, 16);
        for (int i = 0; i < 5; i++) {
            update(x, 2, i);
        }
        x.beginScan(0);
        x.run(0, 2);
        update(x, 2, 5);
        x.run(0, 1);
        due("count(READS, 0, 2)", x.count(READS, 0, 2), 6);
        update(x, 2, 6);
        due("run(0, 3)", x.run(0, 3), 3);
        due("movedIn(0, 2)", x.movedIn(0, 2), 2);
        due("phase(0)", x.phase(0), SCANNING);
        due("run(0, 64)", x.run(0, 64), 3);
        due("lender(0)", x.lender(0), CLEAN);
    }

    /**
     * Process p reads c-1 whole collects, between which one other register each moves once;
     * then j moves twice, and p ends in collect c at j.
     */
    private static void endsInCollect(int n, int p, int j, int c, boolean update) {
        String of = " of " + n + ": " + p + " ends at " + j + " in collect " + c;
        WaitFreeSnapshot x = begun(n, p, update);
        int mover = -1;
        for (int collect = 2; collect < c; collect++) {
            x.run(p, n);
            do {
                mover++;
            } while (mover == p || mover == j);
            update(x, mover, 1);
        }
        due("a whole collect" + of, x.run(p, n), n);
        update(x, j, 1);
        update(x, j, 2);
        due("run(p, j)" + of, j == 0 ? 0 : x.run(p, j), j);
        due("endedAt before the last read" + of, x.endedAt(p), NONE);
        due("the last read" + of, x.run(p, 1), 1);
        due("phase" + of, x.phase(p), update ? WRITING : IDLE);
        due("lender" + of, x.lender(p), j);
        due("endedAt" + of, x.endedAt(p), c);
        due("version" + of, x.version(SNAPSHOT, p), c - 1);
        due("movedIn" + of, x.movedIn(p, j), c);
        due("steps" + of, x.steps(p), (c - 1) * n + j + 1);
        due("what is left" + of, x.run(p, 64), update ? 1 : NO_WORK);
    }

    private static void endsAt(boolean theLastRegister) {
        for (int n = 2; n <= 6; n++) {
            for (int p = 0; p < n; p++) {
                for (int j = 0; j < n; j++) {
                    for (int c = 2; c <= n; c++) {
                        if (j != p && theLastRegister == (j == n - 1)) {
                            endsInCollect(n, p, j, c, false);
                            endsInCollect(n, p, j, c, true);
                        }
                    }
                }
            }
        }
    }

    private static void endsInTheMidstOfACollect() {
        sentence("the reading ends now, even in the midst of a collect");
        endsAt(false);
    }

    private static void nothingIsReadAfterTheEnd() {
        sentence("a reading that ends in the midst of a collect reads no further register of it");
        WaitFreeSnapshot x = begun(4, 0, true);
        x.run(0, 4);
        for (int q = 3; q >= 1; q--) {
            update(x, q, 10 * q);
            update(x, q, 10 * q + 1);
        }
        due("run(0, 64): two reads and the write", x.run(0, 64), 3);
        due("lender(0)", x.lender(0), 1);
        due("value(READS, 0, 1)", x.value(READS, 0, 1), 11);
        due("count(READS, 0, 2)", x.count(READS, 0, 2), 0);
        due("count(READS, 0, 3)", x.count(READS, 0, 3), 0);
        due("movedIn(0, 2)", x.movedIn(0, 2), 0);
        due("movedIn(0, 3)", x.movedIn(0, 3), 0);
        due("version(HELD, 0)", x.version(HELD, 0), 5);
    }

    private static void endsAtTheLastReadByBorrowing() {
        sentence("the reading may end by borrowing at the last read of a collect");
        endsAt(true);
    }

    private static void endsAtTheLastReadClean() {
        sentence("otherwise, if j is n-1 and c >= 2 and no register moved in c, the reading ends: lender is CLEAN");
        for (int n = 2; n <= 6; n++) {
            for (int p = 0; p < n; p++) {
                for (int c = 2; c <= n + 1; c++) {
                    endsCleanInCollect(n, p, c, false);
                    endsCleanInCollect(n, p, c, true);
                }
            }
        }
    }

    private static void endsCleanInCollect(int n, int p, int c, boolean update) {
        String of = " of " + n + ": " + p + " ends clean in collect " + c;
        WaitFreeSnapshot x = begun(n, p, update);
        int mover = p;
        for (int collect = 2; collect < c; collect++) {
            x.run(p, n);
            mover = otherThan(mover, n);
            update(x, mover, 1);
        }
        due("all collects but the last" + of, x.run(p, n), n);
        due("all reads of it but the last" + of, x.run(p, n - 1), n - 1);
        due("endedAt" + of, x.endedAt(p), NONE);
        due("the last read" + of, x.run(p, 1), 1);
        due("phase" + of, x.phase(p), update ? WRITING : IDLE);
        due("lender" + of, x.lender(p), CLEAN);
        due("endedAt" + of, x.endedAt(p), c - 2);
        due("version" + of, x.version(SNAPSHOT, p), c - 2);
        due("steps" + of, x.steps(p), c * n);
    }

    private static void neverEndsInTheFirstCollect() {
        sentence("c >= 2: the reading never ends in collect 1");
        for (int n = 2; n <= 6; n++) {
            WaitFreeSnapshot x = begun(n, 0, false);
            due("run(0, n)", x.run(0, n), n);
            due("phase(0)", x.phase(0), SCANNING);
            due("endedAt(0)", x.endedAt(0), NONE);
            due("lender(0)", x.lender(0), NONE);
            due("version(SNAPSHOT, 0)", x.version(SNAPSHOT, 0), NONE);
        }
    }

    private static void aMoveOfAnyRegisterHindersTheCleanEnd() {
        sentence("movedIn(p, i) is c for no i: a move of any one register lets the reading go on with register 0");
        for (int n = 2; n <= 6; n++) {
            for (int p = 0; p < n; p++) {
                for (int j = 0; j < n; j++) {
                    if (j != p) {
                        WaitFreeSnapshot x = begun(n, p, false);
                        x.run(p, n);
                        update(x, j, 1);
                        due("collect 2", x.run(p, n), n);
                        due("phase after it", x.phase(p), SCANNING);
                        due("collect 3", x.run(p, 64), n);
                        due("version", x.version(SNAPSHOT, p), 1);
                    }
                }
            }
        }
    }

    private static void aMoveInAnEarlierCollectDoesNotHinder() {
        sentence("movedIn(p, i) is c for no i: a move in an earlier collect does not hinder the end");
        WaitFreeSnapshot x = begun(4, 0, false);
        for (int q = 1; q < 4; q++) {
            x.run(0, 4);
            update(x, q, q);
        }
        due("collects 4 and 5", x.run(0, 64), 8);
        due("lender(0)", x.lender(0), CLEAN);
        due("movedIn(0, 1)", x.movedIn(0, 1), 2);
        due("movedIn(0, 2)", x.movedIn(0, 2), 3);
        due("movedIn(0, 3)", x.movedIn(0, 3), 4);
        due("version(SNAPSHOT, 0)", x.version(SNAPSHOT, 0), 3);
    }

    /** Writes after a register's last read are not seen, and are not in the view. */
    private static void theCleanViewIsOlderThanTheLastCollect() {
        sentence("v is the number of writes that had been made at the last read step of collect c-1");
        for (int n = 2; n <= 6; n++) {
            WaitFreeSnapshot x = begun(n, n - 1, false);
            x.run(n - 1, n - 1);
            update(x, 0, 50);
            due("the last read of collect 1", x.run(n - 1, 1), 1);
            due("collect 2", x.run(n - 1, n), n);
            due("movedIn(n - 1, 0)", x.movedIn(n - 1, 0), 2);
            due("all of collect 3 but the last read", x.run(n - 1, n - 1), n - 1);
            for (int q = 0; q < n - 1; q++) {
                update(x, q, 60 + q);
            }
            due("the last read of collect 3", x.run(n - 1, 64), 1);
            due("lender", x.lender(n - 1), CLEAN);
            due("endedAt", x.endedAt(n - 1), n);
            due("version", x.version(SNAPSHOT, n - 1), 1);
            for (int q = 0; q < n; q++) {
                due("value of " + q, x.value(SNAPSHOT, n - 1, q), q == 0 ? 50 : 0);
                due("what collect 3 has read of " + q, x.value(READS, n - 1, q), q == 0 ? 50 : 0);
            }
        }
    }

    private static void theBorrowedViewIsTheOneHeldNow() {
        sentence("the operation's view is the view held now by register j, and stays when j writes again");
        WaitFreeSnapshot x = begun(3, 0, false);
        x.run(0, 3);
        update(x, 1, 10);
        update(x, 1, 11);
        update(x, 1, 12);
        x.beginUpdate(1, 13);
        x.run(1, 6);
        due("version(SNAPSHOT, 1): not held yet", x.version(SNAPSHOT, 1), 3);
        due("run(0, 64)", x.run(0, 64), 2);
        due("version(SNAPSHOT, 0)", x.version(SNAPSHOT, 0), 2);
        x.run(1, 1);
        update(x, 1, 14);
        due("version(HELD, 1)", x.version(HELD, 1), 4);
        due("version(SNAPSHOT, 0) stays", x.version(SNAPSHOT, 0), 2);
        due("value(SNAPSHOT, 0, 1) stays", x.value(SNAPSHOT, 0, 1), 11);
    }

    private static void endOfAScanAndOfAnUpdate() {
        sentence("if the reading ended: phase SCANNING becomes IDLE, phase UPDATING becomes WRITING");
        for (int borrowed = 0; borrowed < 2; borrowed++) {
            for (int kind = SCANNING; kind <= UPDATING; kind++) {
                boolean update = kind == UPDATING;
                WaitFreeSnapshot x = movedBy(3, 0, 2, 2 * borrowed, update);
                due("lender(0)", x.lender(0), borrowed == 1 ? 2 : CLEAN);
                due("phase(0)", x.phase(0), update ? WRITING : IDLE);
                due("run(0, 1)", x.run(0, 1), update ? 1 : NO_WORK);
            }
        }
    }

    private static void readStepChangesNothingElse() {
        sentence("a read step changes no register, no view held, not the number of writes, nothing about any other process");
        for (int borrowed = 0; borrowed < 2; borrowed++) {
            WaitFreeSnapshot x = begun(3, 0, true);
            x.run(0, 3);
            for (int i = 0; i < 2 * borrowed; i++) {
                update(x, 2, i);
            }
            x.beginScan(1);
            x.run(1, 2);
            String before = pictureOfMemory(x, 3) + pictureOfOthers(x, 3, 0);
            for (int step = 0; step < 3; step++) {
                due("run(0, 1)", x.run(0, 1), 1);
                same("all but process 0", pictureOfMemory(x, 3) + pictureOfOthers(x, 3, 0), before);
            }
            due("phase(0)", x.phase(0), WRITING);
        }
    }

    /** Process 1 of 3 is about to write 99; it has seen 0 move, and 2 has written since. */
    private static WaitFreeSnapshot beforeTheWrite() {
        WaitFreeSnapshot x = busyPast(16);
        x.beginUpdate(1, 99);
        x.run(1, 3);
        update(x, 0, 5);
        due("collects 2 and 3", x.run(1, 6), 6);
        update(x, 2, 31);
        x.beginScan(0);
        x.run(0, 4);
        due("phase(1)", x.phase(1), WRITING);
        return x;
    }

    private static void writeStepChangesOnlyItsRegister() {
        sentence("write step: register p holds the value, a count greater by one and the view; all else stays");
        WaitFreeSnapshot x = beforeTheWrite();
        String before = pictureOfOthers(x, 3, 1) + pictureOfRegister(x, 3, 0) + pictureOfRegister(x, 3, 2);
        due("version(MEMORY, 0) before", x.version(MEMORY, 0), 5);
        due("run(1, 1)", x.run(1, 1), 1);
        String after = pictureOfOthers(x, 3, 1) + pictureOfRegister(x, 3, 0) + pictureOfRegister(x, 3, 2);
        same("the other registers and processes", after, before);
        due("version(MEMORY, 0)", x.version(MEMORY, 0), 6);
        due("value(MEMORY, 0, 1)", x.value(MEMORY, 0, 1), 99);
        due("count(MEMORY, 0, 1)", x.count(MEMORY, 0, 1), 3);
        due("version(HELD, 1)", x.version(HELD, 1), 4);
        due("phase(1)", x.phase(1), IDLE);
        due("steps(1)", x.steps(1), 10);
    }

    private static void whatStaysAtTheWriteStep() {
        sentence("write step: the view, startedAt, endedAt, lender, the movedIn and the latest reads stay");
        WaitFreeSnapshot x = beforeTheWrite();
        String before = pictureOf(x, 3, 1);
        due("run(1, 1)", x.run(1, 1), 1);
        String want = before.replace("phase 3 steps 9 intent 99", "phase 0 steps 10 intent 0");
        same("process 1", pictureOf(x, 3, 1), want);
        due("movedIn(1, 0)", x.movedIn(1, 0), 2);
        due("value(READS, 1, 1): its own old value", x.value(READS, 1, 1), 11);
    }

    private static void writeOfTheOldValue() {
        sentence("a write that repeats the old value is a write like any other");
        int[] values = {0, 7, LEAST_INT};
        for (int value : values) {
            WaitFreeSnapshot x = new WaitFreeSnapshot(2, 16);
            update(x, 1, value);
            x.beginScan(0);
            x.run(0, 2);
            update(x, 1, value);
            due("version(MEMORY, 0)", x.version(MEMORY, 0), 2);
            due("count(MEMORY, 0, 1)", x.count(MEMORY, 0, 1), 2);
            due("version(HELD, 1)", x.version(HELD, 1), 1);
            due("collect 2 sees the move", x.run(0, 2), 2);
            due("movedIn(0, 1)", x.movedIn(0, 1), 2);
            due("phase(0)", x.phase(0), SCANNING);
            update(x, 1, value);
            due("collect 3 borrows", x.run(0, 64), 2);
            due("lender(0)", x.lender(0), 1);
            due("version(SNAPSHOT, 0)", x.version(SNAPSHOT, 0), 2);
        }
    }
}
