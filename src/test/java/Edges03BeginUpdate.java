/** The edges that promise 3 names. */
final class Edges03BeginUpdate extends Check {
    public static void main(String[] args) {
        anyIntIsAllowed();
        theOldValueAgain();
        outOfRangeIsBad();
        haltedIsStopped();
        inProgressIsBusy();
        limitReachedIsFull();
        badComesBeforeFull();
        stoppedComesBeforeBusy();
        stoppedComesBeforeFull();
        busyComesBeforeFull();
        theClampedLimitCounts();
        allProcessesTogether();
        finishedOrNot();
        haltedOrNot();
        fullForEver();
        okFromEveryRest();
        allAsForAScan();
        intentUntilFinished();
        nothingIsWrittenYet();
        theOthersStay();
        refusedWithBadDoesNotCount();
        refusedWithStoppedDoesNotCount();
        refusedWithBusyDoesNotCount();
        finish();
    }

    /** Process 1 of 3 in this state on an object where two updates were begun before. */
    private static WaitFreeSnapshot scene(State state) {
        WaitFreeSnapshot x = new WaitFreeSnapshot(3, 16);
        update(x, 0, 10);
        update(x, 2, 30);
        state.bring(x, 3, 1, 20);
        return x;
    }

    private static WaitFreeSnapshot halted(State state) {
        WaitFreeSnapshot x = scene(state);
        x.halt(1);
        return x;
    }

    /** Process 1 of 3 in this state, and the limit of 4 reached with the help of process 2. */
    private static WaitFreeSnapshot full(State state) {
        WaitFreeSnapshot x = new WaitFreeSnapshot(3, 4);
        state.bring(x, 3, 1, 20);
        int left = state.isUpdate() ? 3 : 4;
        for (int i = 0; i < left; i++) {
            update(x, 2, i);
        }
        return x;
    }

    private static void anyIntIsAllowed() {
        sentence("any int is allowed as value");
        int[] values = {0, 1, -1, OK, BAD, STOPPED, BUSY, FULL, NO_WORK, NONE, CLEAN, 255, 256, 65535, 65536,
            LEAST_INT, LEAST_INT + 1, GREATEST_INT - 1, GREATEST_INT};
        for (int value : values) {
            WaitFreeSnapshot x = new WaitFreeSnapshot(2, 4);
            due("beginUpdate(1, " + value + ")", x.beginUpdate(1, value), OK);
            due("intent(1)", x.intent(1), value);
            due("run(1, 64)", x.run(1, 64), 5);
            due("value(MEMORY, 0, 1)", x.value(MEMORY, 0, 1), value);
            x.beginUpdate(0, 3);
            x.run(0, 64);
            due("value(SNAPSHOT, 0, 1)", x.value(SNAPSHOT, 0, 1), value);
            due("value(READS, 0, 1)", x.value(READS, 0, 1), value);
            due("value(HELD, 0, 1)", x.value(HELD, 0, 1), value);
        }
    }

    private static void theOldValueAgain() {
        sentence("any int is allowed as value, also the old one again");
        WaitFreeSnapshot x = new WaitFreeSnapshot(2, 8);
        for (int i = 1; i <= 8; i++) {
            due("beginUpdate(0, 7)", x.beginUpdate(0, 7), OK);
            due("intent(0)", x.intent(0), 7);
            due("run(0, 64)", x.run(0, 64), 5);
            due("count(MEMORY, 0, 0)", x.count(MEMORY, 0, 0), i);
        }
        due("beginUpdate(0, 7), the ninth", x.beginUpdate(0, 7), FULL);
    }

    private static void outOfRangeIsBad() {
        sentence("refusal 1: p out of range: BAD, and nothing changes");
        for (int p : outOfRange(3)) {
            changesNothing("beginUpdate(" + p + ", 5)", 3, () -> scene(State.UPDATE_IN_COLLECT_2), x -> x.beginUpdate(p, 5), BAD);
        }
        for (int n = 2; n <= 6; n++) {
            WaitFreeSnapshot x = new WaitFreeSnapshot(n, 4);
            due("beginUpdate(n, 1)", x.beginUpdate(n, 1), BAD);
            due("beginUpdate(-1, 1)", x.beginUpdate(-1, 1), BAD);
            due("beginUpdate(n - 1, 1)", x.beginUpdate(n - 1, 1), OK);
            due("beginUpdate(0, 1)", x.beginUpdate(0, 1), OK);
        }
    }

    private static void haltedIsStopped() {
        sentence("refusal 2: p halted: STOPPED, and nothing changes");
        for (State state : State.values()) {
            changesNothing("beginUpdate(1, 5) halted in " + state, 3, () -> halted(state), x -> x.beginUpdate(1, 5), STOPPED);
        }
    }

    private static void inProgressIsBusy() {
        sentence("refusal 3: p has an operation in progress: BUSY, and nothing changes");
        for (State state : State.values()) {
            if (state.inProgress()) {
                changesNothing("beginUpdate(1, 5) in " + state, 3, () -> scene(state), x -> x.beginUpdate(1, 5), BUSY);
            }
        }
    }

    private static void limitReachedIsFull() {
        sentence("refusal 4: limit updates have been begun already: FULL, and nothing changes");
        for (State state : State.values()) {
            if (!state.inProgress()) {
                changesNothing("beginUpdate(1, 5) in " + state, 3, () -> full(state), x -> x.beginUpdate(1, 5), FULL);
            }
        }
    }

    private static void badComesBeforeFull() {
        sentence("the order of refusals: BAD before FULL");
        for (int p : outOfRange(3)) {
            due("beginUpdate(" + p + ", 5) when full", full(State.NEVER).beginUpdate(p, 5), BAD);
        }
    }

    private static void stoppedComesBeforeBusy() {
        sentence("the order of refusals: STOPPED before BUSY");
        for (State state : State.values()) {
            if (state.inProgress()) {
                due("beginUpdate(1, 5) halted in " + state, halted(state).beginUpdate(1, 5), STOPPED);
            }
        }
    }

    private static void stoppedComesBeforeFull() {
        sentence("the order of refusals: STOPPED before FULL");
        for (State state : State.values()) {
            WaitFreeSnapshot x = full(state);
            x.halt(1);
            due("beginUpdate(1, 5) halted and full in " + state, x.beginUpdate(1, 5), STOPPED);
        }
    }

    private static void busyComesBeforeFull() {
        sentence("the order of refusals: BUSY before FULL");
        for (State state : State.values()) {
            if (state.inProgress()) {
                due("beginUpdate(1, 5) full in " + state, full(state).beginUpdate(1, 5), BUSY);
            }
        }
    }

    private static void theClampedLimitCounts() {
        sentence("limit updates (the clamped limit) have been begun: the last one is OK, the next one FULL");
        int[] given = {LEAST_INT, 0, 3, 4, 5, 127, 128, 129, GREATEST_INT};
        int[] limits = {4, 4, 4, 4, 5, 127, 128, 128, 128};
        for (int i = 0; i < given.length; i++) {
            WaitFreeSnapshot x = new WaitFreeSnapshot(2, given[i]);
            for (int u = 1; u <= limits[i]; u++) {
                due("update " + u + " with limit " + given[i], x.beginUpdate(0, u), OK);
                x.run(0, 64);
            }
            due("the next with limit " + given[i], x.beginUpdate(0, 0), FULL);
            due("the next with limit " + given[i] + " by another", x.beginUpdate(1, 0), FULL);
            due("writes", x.version(MEMORY, 0), limits[i]);
        }
    }

    private static void allProcessesTogether() {
        sentence("the limit is reached by all processes together");
        for (int n = 2; n <= 6; n++) {
            WaitFreeSnapshot x = new WaitFreeSnapshot(n, 7);
            for (int u = 0; u < 7; u++) {
                update(x, u % n, u);
            }
            for (int p = 0; p < n; p++) {
                due("beginUpdate(" + p + ", 1) of " + n, x.beginUpdate(p, 1), FULL);
            }
        }
    }

    private static void finishedOrNot() {
        sentence("the limit is reached by updates finished or not");
        for (State state : State.values()) {
            if (state.isUpdate()) {
                WaitFreeSnapshot x = new WaitFreeSnapshot(6, 4);
                for (int p = 0; p < 4; p++) {
                    state.bring(x, 6, p, p);
                }
                due("beginUpdate(4, 1) after four in " + state, x.beginUpdate(4, 1), FULL);
                for (int p = 0; p < 4; p++) {
                    x.run(p, 64);
                    due("beginUpdate(5, 1) when " + p + " has finished", x.beginUpdate(5, 1), FULL);
                }
            }
        }
    }

    private static void haltedOrNot() {
        sentence("the limit is reached by updates halted or not");
        for (State state : State.values()) {
            if (state.isUpdate()) {
                WaitFreeSnapshot x = new WaitFreeSnapshot(6, 4);
                for (int p = 0; p < 4; p++) {
                    state.bring(x, 6, p, p);
                    x.halt(p);
                }
                due("beginUpdate(4, 1) after four halted in " + state, x.beginUpdate(4, 1), FULL);
                due("beginUpdate(5, 1) after four halted in " + state, x.beginUpdate(5, 1), FULL);
            }
        }
    }

    private static void fullForEver() {
        sentence("once the limit is reached, no call makes room again");
        WaitFreeSnapshot x = full(State.UPDATE_IN_COLLECT_2);
        for (int i = 0; i < 200; i++) {
            due("beginUpdate(2, 1)", x.beginUpdate(2, 1), FULL);
            x.beginScan(2);
            x.run(2, 64);
            x.run(1, 1);
        }
        x.halt(1);
        due("beginUpdate(2, 1) after a halt", x.beginUpdate(2, 1), FULL);
    }

    private static void okFromEveryRest() {
        sentence("otherwise the answer is OK: phase UPDATING, steps(p) is 0");
        for (State state : State.values()) {
            if (!state.inProgress()) {
                WaitFreeSnapshot x = scene(state);
                due("beginUpdate(1, 5) in " + state, x.beginUpdate(1, 5), OK);
                due("phase(1)", x.phase(1), UPDATING);
                due("steps(1)", x.steps(1), 0);
                due("intent(1)", x.intent(1), 5);
            }
        }
    }

    private static void allAsForAScan() {
        sentence("all is as in Promise 2 but with phase UPDATING");
        WaitFreeSnapshot x = busyPast(16);
        due("movedIn(0, 1) before", x.movedIn(0, 1), 2);
        due("version(SNAPSHOT, 0) before", x.version(SNAPSHOT, 0), 2);
        due("beginUpdate(0, 5)", x.beginUpdate(0, 5), OK);
        due("startedAt(0)", x.startedAt(0), 3);
        due("endedAt(0)", x.endedAt(0), NONE);
        due("lender(0)", x.lender(0), NONE);
        due("version(SNAPSHOT, 0)", x.version(SNAPSHOT, 0), NONE);
        for (int j = 0; j < 3; j++) {
            due("movedIn(0, " + j + ")", x.movedIn(0, j), 0);
            due("count(SNAPSHOT, 0, " + j + ")", x.count(SNAPSHOT, 0, j), NONE);
            due("count(READS, 0, " + j + ")", x.count(READS, 0, j), NONE);
        }
        due("run(0, 64): two whole collects and the write", x.run(0, 64), 7);
    }

    private static void intentUntilFinished() {
        sentence("intent(p) is value from now on until the operation is finished");
        for (int n = 2; n <= 6; n++) {
            WaitFreeSnapshot x = new WaitFreeSnapshot(n, 4);
            x.beginUpdate(1, -77);
            for (int step = 0; step <= 2 * n; step++) {
                due("intent(1) after " + step + " steps of " + n, x.intent(1), -77);
                x.run(1, 1);
            }
            due("intent(1) when finished", x.intent(1), 0);
        }
    }

    private static void nothingIsWrittenYet() {
        sentence("no step is taken and nothing is written yet; registers, views held and number of writes stay");
        for (State state : State.values()) {
            if (!state.inProgress()) {
                WaitFreeSnapshot x = scene(state);
                String before = pictureOfMemory(x, 3);
                x.beginUpdate(1, 5);
                same("the registers", pictureOfMemory(x, 3), before);
                due("steps(1)", x.steps(1), 0);
            }
        }
    }

    private static void theOthersStay() {
        sentence("all other processes stay as they are");
        for (State state : State.values()) {
            WaitFreeSnapshot x = scene(state);
            x.halt(2);
            String before = pictureOfOthers(x, 3, 0);
            due("beginUpdate(0, 5) beside " + state, x.beginUpdate(0, 5), OK);
            same("the others", pictureOfOthers(x, 3, 0), before);
        }
    }

    /** After the refused ones, just four updates more are taken. */
    private static void fourAreLeft(WaitFreeSnapshot x) {
        for (int i = 0; i < 4; i++) {
            due("beginUpdate(1, " + i + ")", x.beginUpdate(1, i), OK);
            x.run(1, 64);
        }
        due("beginUpdate(1, 4)", x.beginUpdate(1, 4), FULL);
    }

    private static void refusedWithBadDoesNotCount() {
        sentence("a refused update does not count towards the limit: BAD");
        WaitFreeSnapshot x = new WaitFreeSnapshot(2, 4);
        for (int i = 0; i < 200; i++) {
            due("beginUpdate(2, 1)", x.beginUpdate(2, 1), BAD);
            due("beginUpdate(-1, 1)", x.beginUpdate(-1, 1), BAD);
        }
        fourAreLeft(x);
    }

    private static void refusedWithStoppedDoesNotCount() {
        sentence("a refused update does not count towards the limit: STOPPED");
        WaitFreeSnapshot x = new WaitFreeSnapshot(2, 4);
        x.halt(0);
        for (int i = 0; i < 200; i++) {
            due("beginUpdate(0, 1)", x.beginUpdate(0, 1), STOPPED);
        }
        fourAreLeft(x);
    }

    private static void refusedWithBusyDoesNotCount() {
        sentence("a refused update does not count towards the limit: BUSY");
        WaitFreeSnapshot x = new WaitFreeSnapshot(2, 5);
        x.beginUpdate(0, 1);
        for (int i = 0; i < 200; i++) {
            due("beginUpdate(0, 2)", x.beginUpdate(0, 2), BUSY);
        }
        fourAreLeft(x);
    }
}
