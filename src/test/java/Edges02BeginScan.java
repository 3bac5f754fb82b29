/** The edges that promise 2 names. */
final class Edges02BeginScan extends Check {
    public static void main(String[] args) {
        outOfRangeIsBad();
        haltedIsStopped();
        inProgressIsBusy();
        badComesBeforeAll();
        stoppedComesBeforeBusy();
        okWheneverNothingIsInProgress();
        nothingReadYet();
        noViewYet();
        movesAreForgotten();
        startedAtIsTheNumberOfWrites();
        theEarlierOperationIsNoLongerTold();
        noStepIsTaken();
        registersAndWritesStay();
        theOthersStay();
        updatesBegunStay();
        scansDoNotCount();
        finish();
    }

    /** Process 1 of 3 in this state, after two writes of the others and none by itself. */
    private static WaitFreeSnapshot scene(State state, int limit) {
        WaitFreeSnapshot x = new WaitFreeSnapshot(3, limit);
        update(x, 0, 10);
        update(x, 2, 30);
        state.bring(x, 3, 1, 20);
        return x;
    }

    private static WaitFreeSnapshot halted(State state) {
        WaitFreeSnapshot x = scene(state, 16);
        x.halt(1);
        return x;
    }

    private static void outOfRangeIsBad() {
        sentence("refusal 1: p out of range: BAD, and nothing changes");
        for (int p : outOfRange(3)) {
            changesNothing("beginScan(" + p + ")", 3, () -> scene(State.SCAN_IN_COLLECT_2, 16), x -> x.beginScan(p), BAD);
        }
        for (int n = 2; n <= 6; n++) {
            int last = n - 1;
            WaitFreeSnapshot x = new WaitFreeSnapshot(n, 4);
            due("beginScan(n)", x.beginScan(n), BAD);
            due("beginScan(-1)", x.beginScan(-1), BAD);
            due("beginScan(n - 1)", x.beginScan(last), OK);
            due("beginScan(0)", x.beginScan(0), OK);
        }
    }

    private static void haltedIsStopped() {
        sentence("refusal 2: p halted: STOPPED, and nothing changes");
        for (State state : State.values()) {
            changesNothing("beginScan(1) halted in " + state, 3, () -> halted(state), x -> x.beginScan(1), STOPPED);
        }
    }

    private static void inProgressIsBusy() {
        sentence("refusal 3: p has an operation in progress: BUSY, and nothing changes");
        for (State state : State.values()) {
            if (state.inProgress()) {
                changesNothing("beginScan(1) in " + state, 3, () -> scene(state, 16), x -> x.beginScan(1), BUSY);
            }
        }
    }

    private static void badComesBeforeAll() {
        sentence("the order of refusals: BAD also when all processes are halted or busy");
        WaitFreeSnapshot x = new WaitFreeSnapshot(2, 4);
        x.beginScan(0);
        x.beginScan(1);
        due("beginScan(2) when all are busy", x.beginScan(2), BAD);
        x.halt(0);
        x.halt(1);
        due("beginScan(2) when all are halted", x.beginScan(2), BAD);
        due("beginScan(-1) when all are halted", x.beginScan(-1), BAD);
    }

    private static void stoppedComesBeforeBusy() {
        sentence("the order of refusals: STOPPED if p is halted with an operation in progress");
        for (State state : State.values()) {
            if (state.inProgress()) {
                due("beginScan(1) halted in " + state, halted(state).beginScan(1), STOPPED);
            }
        }
    }

    private static void okWheneverNothingIsInProgress() {
        sentence("otherwise the answer is OK: phase SCANNING, steps(p) is 0");
        for (State state : State.values()) {
            if (!state.inProgress()) {
                WaitFreeSnapshot x = scene(state, 16);
                due("beginScan(1) in " + state, x.beginScan(1), OK);
                due("phase(1)", x.phase(1), SCANNING);
                due("steps(1)", x.steps(1), 0);
                due("intent(1)", x.intent(1), 0);
            }
        }
    }

    /** Process 0 has ended its reading by borrowing, with moves seen in collect 2. */
    private static WaitFreeSnapshot afterABorrowedScan() {
        WaitFreeSnapshot x = new WaitFreeSnapshot(3, 16);
        x.beginScan(0);
        x.run(0, 3);
        update(x, 1, 10);
        update(x, 2, 20);
        update(x, 2, 21);
        due("run(0, 64)", x.run(0, 64), 3);
        due("lender(0)", x.lender(0), 2);
        due("movedIn(0, 1)", x.movedIn(0, 1), 2);
        due("movedIn(0, 2)", x.movedIn(0, 2), 2);
        due("version(SNAPSHOT, 0)", x.version(SNAPSHOT, 0), 2);
        return x;
    }

    private static void nothingReadYet() {
        sentence("nothing has been read yet");
        WaitFreeSnapshot x = afterABorrowedScan();
        x.beginScan(0);
        for (int j = 0; j < 3; j++) {
            due("count(READS, 0, " + j + ")", x.count(READS, 0, j), NONE);
            due("value(READS, 0, " + j + ")", x.value(READS, 0, j), 0);
        }
        due("run(0, 64): two whole collects, from register 0 on", x.run(0, 64), 6);
        due("lender(0)", x.lender(0), CLEAN);
    }

    private static void noViewYet() {
        sentence("there is no view yet (so endedAt(p) and lender(p) are NONE)");
        WaitFreeSnapshot x = afterABorrowedScan();
        x.beginScan(0);
        due("endedAt(0)", x.endedAt(0), NONE);
        due("lender(0)", x.lender(0), NONE);
        due("version(SNAPSHOT, 0)", x.version(SNAPSHOT, 0), NONE);
        for (int j = 0; j < 3; j++) {
            due("count(SNAPSHOT, 0, " + j + ")", x.count(SNAPSHOT, 0, j), NONE);
            due("value(SNAPSHOT, 0, " + j + ")", x.value(SNAPSHOT, 0, j), 0);
        }
    }

    private static void movesAreForgotten() {
        sentence("movedIn(p, j) is 0 for all j");
        WaitFreeSnapshot x = afterABorrowedScan();
        x.beginScan(0);
        for (int j = 0; j < 3; j++) {
            due("movedIn(0, " + j + ")", x.movedIn(0, j), 0);
        }
        x.run(0, 64);
        for (int j = 0; j < 3; j++) {
            due("movedIn(0, " + j + ") at the end", x.movedIn(0, j), 0);
        }
    }

    private static void startedAtIsTheNumberOfWrites() {
        sentence("startedAt(p) is the number of writes made so far");
        WaitFreeSnapshot x = new WaitFreeSnapshot(2, 128);
        for (int writes = 0; writes <= 128; writes++) {
            due("beginScan(0)", x.beginScan(0), OK);
            due("startedAt(0)", x.startedAt(0), writes);
            x.run(0, 64);
            if (writes < 128) {
                update(x, 1, writes);
            }
        }
    }

    private static void theEarlierOperationIsNoLongerTold() {
        sentence("what the getters told of p's earlier operation is no longer told");
        WaitFreeSnapshot x = afterABorrowedScan();
        WaitFreeSnapshot first = new WaitFreeSnapshot(3, 16);
        update(first, 1, 10);
        update(first, 2, 20);
        update(first, 2, 21);
        x.beginScan(0);
        first.beginScan(0);
        same("a scan after another, beside a first one", pictureOf(x, 3, 0), pictureOf(first, 3, 0));

        WaitFreeSnapshot y = scene(State.UPDATE_FINISHED, 16);
        y.beginScan(1);
        due("intent(1) after an update", y.intent(1), 0);
        due("endedAt(1) after an update", y.endedAt(1), NONE);
        due("lender(1) after an update", y.lender(1), NONE);
        due("version(SNAPSHOT, 1) after an update", y.version(SNAPSHOT, 1), NONE);
        due("count(READS, 1, 0) after an update", y.count(READS, 1, 0), NONE);
    }

    private static void noStepIsTaken() {
        sentence("no step is taken");
        WaitFreeSnapshot x = scene(State.NEVER, 16);
        x.beginUpdate(0, 5);
        x.beginScan(1);
        due("steps(1)", x.steps(1), 0);
        due("steps(0)", x.steps(0), 0);
        due("count(READS, 1, 0)", x.count(READS, 1, 0), NONE);
        due("run(1, 64)", x.run(1, 64), 6);
    }

    private static void registersAndWritesStay() {
        sentence("the registers with the views they hold and the number of writes stay as they are");
        WaitFreeSnapshot x = busyPast(16);
        String before = pictureOfMemory(x, 3);
        for (int p = 0; p < 3; p++) {
            due("beginScan(" + p + ")", x.beginScan(p), OK);
            same("the registers", pictureOfMemory(x, 3), before);
        }
    }

    private static void theOthersStay() {
        sentence("all other processes stay as they are");
        for (State state : State.values()) {
            WaitFreeSnapshot x = scene(state, 16);
            x.halt(2);
            String before = pictureOfOthers(x, 3, 0);
            due("beginScan(0) beside " + state, x.beginScan(0), OK);
            same("the others", pictureOfOthers(x, 3, 0), before);
        }
    }

    private static void updatesBegunStay() {
        sentence("the number of updates begun stays as it is");
        WaitFreeSnapshot x = new WaitFreeSnapshot(2, 4);
        for (int i = 0; i < 4; i++) {
            x.beginScan(0);
            due("update " + i + " between scans", x.beginUpdate(1, i), OK);
            x.run(0, 64);
            x.run(1, 64);
        }
        x.beginScan(0);
        due("beginUpdate(1, 4)", x.beginUpdate(1, 4), FULL);
    }

    private static void scansDoNotCount() {
        sentence("scans do not count towards the limit");
        WaitFreeSnapshot x = new WaitFreeSnapshot(2, 4);
        for (int i = 0; i < 200; i++) {
            due("scan " + i, x.beginScan(0), OK);
            due("its steps", x.run(0, 64), 4);
        }
        for (int i = 0; i < 4; i++) {
            update(x, 0, i);
        }
        due("beginUpdate(0, 4)", x.beginUpdate(0, 4), FULL);
        due("beginScan(0) when the limit is reached", x.beginScan(0), OK);
        due("beginScan(1) when the limit is reached", x.beginScan(1), OK);
    }
}
