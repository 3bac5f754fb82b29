/** The edges that promise 4 names for the call: its refusals and its k. */
final class Edges04Run extends Check {
    public static void main(String[] args) {
        outOfRangeIsBad();
        stepsBelowOneAreBad();
        haltedIsStopped();
        nothingInProgressIsNoWork();
        badComesBeforeStopped();
        badComesBeforeNoWork();
        stoppedComesBeforeNoWork();
        aboveSixtyFourCountsAsSixtyFour();
        untilAllStepsAreTaken();
        untilTheOperationIsFinished();
        fromTheReadingIntoTheWrite();
        notIntoTheWriteIfTooFewSteps();
        noOtherProcessTakesAStep();
        finish();
    }

    /** Process 1 of 3 in this state, after two writes of the others. */
    private static WaitFreeSnapshot scene(State state) {
        WaitFreeSnapshot x = new WaitFreeSnapshot(3, 16);
        update(x, 0, 10);
        update(x, 2, 30);
        state.bring(x, 3, 1, 20);
        return x;
    }

    private static WaitFreeSnapshot halted(State state) {
        WaitFreeSnapshot x = scene(state);
        x.halt(1);
        return x;
    }

    private static final int[] BELOW_ONE = {0, -1, -2, -64, -65, LEAST_INT, LEAST_INT + 1};

    private static void outOfRangeIsBad() {
        sentence("refusal 1: p out of range: BAD, and nothing changes");
        for (int p : outOfRange(3)) {
            changesNothing("run(" + p + ", 2)", 3, () -> scene(State.SCAN_IN_COLLECT_2), x -> x.run(p, 2), BAD);
        }
        for (int n = 2; n <= 6; n++) {
            WaitFreeSnapshot x = new WaitFreeSnapshot(n, 4);
            x.beginScan(0);
            x.beginScan(n - 1);
            due("run(n, 1)", x.run(n, 1), BAD);
            due("run(-1, 1)", x.run(-1, 1), BAD);
            due("run(n - 1, 1)", x.run(n - 1, 1), 1);
            due("run(0, 1)", x.run(0, 1), 1);
        }
    }

    private static void stepsBelowOneAreBad() {
        sentence("refusal 1: k below 1: BAD, and nothing changes");
        for (int k : BELOW_ONE) {
            for (State state : State.values()) {
                changesNothing("run(1, " + k + ") in " + state, 3, () -> scene(state), x -> x.run(1, k), BAD);
            }
        }
        due("run(1, 1)", scene(State.SCAN_BEGUN).run(1, 1), 1);
    }

    private static void haltedIsStopped() {
        sentence("refusal 2: p halted: STOPPED, and nothing changes");
        for (State state : State.values()) {
            changesNothing("run(1, 64) halted in " + state, 3, () -> halted(state), x -> x.run(1, 64), STOPPED);
        }
    }

    private static void nothingInProgressIsNoWork() {
        sentence("refusal 3: no operation of p in progress: NO_WORK, and nothing changes");
        for (State state : State.values()) {
            if (!state.inProgress()) {
                changesNothing("run(1, 1) in " + state, 3, () -> scene(state), x -> x.run(1, 1), NO_WORK);
            }
        }
    }

    private static void badComesBeforeStopped() {
        sentence("the order of refusals: BAD for k before STOPPED");
        for (State state : State.values()) {
            for (int k : BELOW_ONE) {
                due("run(1, " + k + ") halted in " + state, halted(state).run(1, k), BAD);
            }
        }
    }

    private static void badComesBeforeNoWork() {
        sentence("the order of refusals: BAD for k before NO_WORK");
        for (State state : State.values()) {
            if (!state.inProgress()) {
                for (int k : BELOW_ONE) {
                    due("run(1, " + k + ") in " + state, scene(state).run(1, k), BAD);
                }
            }
        }
    }

    private static void stoppedComesBeforeNoWork() {
        sentence("the order of refusals: STOPPED before NO_WORK");
        for (State state : State.values()) {
            if (!state.inProgress()) {
                due("run(1, 1) halted in " + state, halted(state).run(1, 1), STOPPED);
            }
        }
    }

    /**
     * As many steps as one call can ever take: register 0 moves after it was read first, so
     * that two collects more than the first are needed.
     */
    private static WaitFreeSnapshot beforeTheLongestRun(int n) {
        WaitFreeSnapshot x = new WaitFreeSnapshot(n, 16);
        x.beginUpdate(1, 5);
        x.run(1, 1);
        update(x, 0, 9);
        return x;
    }

    private static void aboveSixtyFourCountsAsSixtyFour() {
        sentence("a k above 64 counts as 64");
        int[] above = {65, 66, 127, 128, 256, 257, 65536, 65537, GREATEST_INT - 1, GREATEST_INT};
        for (int n = 2; n <= 6; n++) {
            WaitFreeSnapshot with64 = beforeTheLongestRun(n);
            due("run(1, 64) of " + n, with64.run(1, 64), 3 * n);
            for (int k : above) {
                WaitFreeSnapshot x = beforeTheLongestRun(n);
                due("run(1, " + k + ") of " + n, x.run(1, k), 3 * n);
                same("the object after it", picture(x, n), picture(with64, n));
            }
        }
    }

    private static void untilAllStepsAreTaken() {
        sentence("p takes steps until k are taken; the answer is how many");
        for (int n = 2; n <= 6; n++) {
            for (int k = 1; k <= 3 * n; k++) {
                WaitFreeSnapshot x = beforeTheLongestRun(n);
                due("run(1, " + k + ") of " + n, x.run(1, k), k);
                due("steps(1)", x.steps(1), k + 1);
                int phase = k == 3 * n ? IDLE : k == 3 * n - 1 ? WRITING : UPDATING;
                due("phase(1)", x.phase(1), phase);
                due("the rest", x.run(1, 64), k == 3 * n ? NO_WORK : 3 * n - k);
            }
        }
    }

    private static void untilTheOperationIsFinished() {
        sentence("p takes steps until its operation is finished, if that is first; the answer is how many, at least 1");
        for (State state : State.values()) {
            if (state.inProgress()) {
                int left = 6 - state.steps(3) + (state.isUpdate() ? 1 : 0);
                for (int k = left; k <= left + 60; k++) {
                    WaitFreeSnapshot x = scene(state);
                    due("run(1, " + k + ") in " + state, x.run(1, k), left);
                    due("phase(1)", x.phase(1), IDLE);
                    due("steps(1)", x.steps(1), state.steps(3) + left);
                }
            }
        }
    }

    private static void fromTheReadingIntoTheWrite() {
        sentence("for an update the steps go on from the reading into the write step, if k allows it");
        for (int n = 2; n <= 6; n++) {
            WaitFreeSnapshot x = new WaitFreeSnapshot(n, 4);
            x.beginUpdate(0, 5);
            due("run(0, 2n + 1)", x.run(0, 2 * n + 1), 2 * n + 1);
            due("phase(0)", x.phase(0), IDLE);
            due("value(MEMORY, 0, 0)", x.value(MEMORY, 0, 0), 5);
        }
    }

    private static void notIntoTheWriteIfTooFewSteps() {
        sentence("a k that just ends the reading of an update leaves the write to the next step");
        for (int n = 2; n <= 6; n++) {
            WaitFreeSnapshot x = new WaitFreeSnapshot(n, 4);
            x.beginUpdate(0, 5);
            due("run(0, 2n)", x.run(0, 2 * n), 2 * n);
            due("phase(0)", x.phase(0), WRITING);
            due("version(MEMORY, 0)", x.version(MEMORY, 0), 0);
            due("run(0, 64)", x.run(0, 64), 1);
            due("version(MEMORY, 0)", x.version(MEMORY, 0), 1);
        }
    }

    private static void noOtherProcessTakesAStep() {
        sentence("no other process takes a step");
        for (State state : State.values()) {
            WaitFreeSnapshot x = scene(state);
            x.beginUpdate(2, 31);
            x.run(2, 6);
            x.beginUpdate(0, 11);
            String others = pictureOfOthers(x, 3, 0);
            due("run(0, 64) beside " + state, x.run(0, 64), 7);
            same("the others", pictureOfOthers(x, 3, 0), others);
        }
    }
}
