/** The edges that promise 6 names. */
final class Edges06Halt extends Check {
    public static void main(String[] args) {
        outOfRangeIsBad();
        haltedAlreadyIsStopped();
        okInEveryState();
        takesNoMoreSteps();
        beginsNothing();
        forEver();
        operationInProgressStaysInProgress();
        allElseAboutItStays();
        itsRegisterStays();
        itsRegisterCanBeRead();
        itsRegisterCanLend();
        neverWrites();
        stillCountsAsBegun();
        theOthersAreNotChanged();
        allMayBeHalted();
        finish();
    }

    /** Process 1 of 3 in this state, after writes of all three. */
    private static WaitFreeSnapshot scene(State state) {
        WaitFreeSnapshot x = new WaitFreeSnapshot(3, 16);
        for (int p = 0; p < 3; p++) {
            update(x, p, 10 + p);
        }
        state.bring(x, 3, 1, 20);
        return x;
    }

    private static WaitFreeSnapshot halted(State state) {
        WaitFreeSnapshot x = scene(state);
        due("halt(1) in " + state, x.halt(1), OK);
        return x;
    }

    private static void outOfRangeIsBad() {
        sentence("refusals: p out of range: BAD, and nothing changes");
        for (int p : outOfRange(3)) {
            changesNothing("halt(" + p + ")", 3, () -> scene(State.UPDATE_IN_COLLECT_2), x -> x.halt(p), BAD);
        }
        for (int n = 2; n <= 6; n++) {
            WaitFreeSnapshot x = new WaitFreeSnapshot(n, 4);
            due("halt(n)", x.halt(n), BAD);
            due("halt(-1)", x.halt(-1), BAD);
            due("halt(n - 1)", x.halt(n - 1), OK);
            due("halt(0)", x.halt(0), OK);
            due("halt(n) when some are halted", x.halt(n), BAD);
        }
    }

    private static void haltedAlreadyIsStopped() {
        sentence("refusals: p halted already: STOPPED, and nothing changes");
        for (State state : State.values()) {
            changesNothing("halt(1) again in " + state, 3, () -> halted(state), x -> x.halt(1), STOPPED);
        }
    }

    private static void okInEveryState() {
        sentence("otherwise the answer is OK");
        for (State state : State.values()) {
            WaitFreeSnapshot x = scene(state);
            due("halt(1) in " + state, x.halt(1), OK);
            due("phase(1)", x.phase(1), state.phase + HALTED);
        }
    }

    private static void takesNoMoreSteps() {
        sentence("a halted process takes no more steps");
        for (State state : State.values()) {
            WaitFreeSnapshot x = halted(state);
            due("run(1, 1) halted in " + state, x.run(1, 1), STOPPED);
            due("run(1, 64) halted in " + state, x.run(1, 64), STOPPED);
            due("schedule of 1 halted in " + state, x.schedule(0x11111111), 0);
            due("steps(1)", x.steps(1), state == State.NEVER ? 7 : state.steps(3));
        }
    }

    private static void beginsNothing() {
        sentence("a halted process begins nothing");
        for (State state : State.values()) {
            WaitFreeSnapshot x = halted(state);
            due("beginScan(1) halted in " + state, x.beginScan(1), STOPPED);
            due("beginUpdate(1, 5) halted in " + state, x.beginUpdate(1, 5), STOPPED);
            due("phase(1)", x.phase(1), state.phase + HALTED);
        }
    }

    private static void forEver() {
        sentence("for ever: nothing that is done afterwards wakes it");
        for (State state : State.values()) {
            WaitFreeSnapshot x = halted(state);
            for (int i = 0; i < 8; i++) {
                x.halt(1);
                update(x, 0, i);
                x.beginScan(2);
                x.schedule(0x21212121);
                x.run(2, 64);
                due("phase(1) later, " + state, x.phase(1), state.phase + HALTED);
                due("run(1, 1) later, " + state, x.run(1, 1), STOPPED);
                due("beginScan(1) later, " + state, x.beginScan(1), STOPPED);
                due("halt(1) later, " + state, x.halt(1), STOPPED);
            }
        }
    }

    private static void operationInProgressStaysInProgress() {
        sentence("an operation in progress stays in progress");
        for (State state : State.values()) {
            if (state.inProgress()) {
                WaitFreeSnapshot x = halted(state);
                due("phase(1)", x.phase(1), state.phase + HALTED);
                due("intent(1)", x.intent(1), state.isUpdate() ? 20 : 0);
                due("steps(1)", x.steps(1), state.steps(3));
                due("endedAt(1)", x.endedAt(1), state.hasView() ? 3 : NONE);
            }
        }
    }

    private static void allElseAboutItStays() {
        sentence("all else about it stays as it is, and the getters go on telling of it");
        for (State state : State.values()) {
            WaitFreeSnapshot x = scene(state);
            String before = pictureOf(x, 3, 1);
            x.halt(1);
            String want = before.replace("phase " + state.phase, "phase " + (state.phase + HALTED));
            same("process 1 halted in " + state, pictureOf(x, 3, 1), want);
            update(x, 0, 50);
            update(x, 2, 52);
            same("process 1 later", pictureOf(x, 3, 1), want);
        }
    }

    private static void itsRegisterStays() {
        sentence("its register stays as it is");
        for (State state : State.values()) {
            WaitFreeSnapshot x = scene(state);
            String before = pictureOfRegister(x, 3, 1);
            x.halt(1);
            same("register 1", pictureOfRegister(x, 3, 1), before);
            update(x, 0, 50);
            x.schedule(0x11111111);
            same("register 1 later", pictureOfRegister(x, 3, 1), before);
        }
    }

    private static void itsRegisterCanBeRead() {
        sentence("its register can still be read by others");
        for (State state : State.values()) {
            WaitFreeSnapshot x = halted(state);
            int value = state == State.UPDATE_FINISHED ? 20 : 11;
            x.beginScan(0);
            due("run(0, 64) beside " + state, x.run(0, 64), 6);
            due("value(READS, 0, 1)", x.value(READS, 0, 1), value);
            due("value(SNAPSHOT, 0, 1)", x.value(SNAPSHOT, 0, 1), value);
            due("value(MEMORY, 0, 1)", x.value(MEMORY, 0, 1), value);
        }
    }

    private static void itsRegisterCanLend() {
        sentence("its register can still be read by others, and so lend its view");
        WaitFreeSnapshot x = new WaitFreeSnapshot(3, 16);
        x.beginScan(0);
        x.run(0, 3);
        update(x, 1, 10);
        update(x, 1, 11);
        x.halt(1);
        due("run(0, 64)", x.run(0, 64), 2);
        due("lender(0)", x.lender(0), 1);
        due("version(SNAPSHOT, 0)", x.version(SNAPSHOT, 0), 1);
        due("value(SNAPSHOT, 0, 1)", x.value(SNAPSHOT, 0, 1), 10);
    }

    private static void neverWrites() {
        sentence("an update halted before its write step never writes");
        for (State state : State.values()) {
            if (state.inProgress() && state.isUpdate()) {
                WaitFreeSnapshot x = halted(state);
                for (int i = 0; i < 20; i++) {
                    x.run(1, 64);
                    x.schedule(0x11111111);
                    x.beginScan(0);
                    x.run(0, 64);
                }
                due("value(MEMORY, 0, 1) after " + state, x.value(MEMORY, 0, 1), 11);
                due("count(MEMORY, 0, 1) after " + state, x.count(MEMORY, 0, 1), 1);
                due("version(MEMORY, 0) after " + state, x.version(MEMORY, 0), 3);
                due("intent(1) after " + state, x.intent(1), 20);
            }
        }
    }

    private static void stillCountsAsBegun() {
        sentence("an update halted before its write step still counts as begun towards the limit");
        for (State state : State.values()) {
            if (state.inProgress() && state.isUpdate()) {
                WaitFreeSnapshot x = new WaitFreeSnapshot(3, 4);
                state.bring(x, 3, 1, 5);
                x.halt(1);
                for (int i = 0; i < 3; i++) {
                    update(x, 0, i);
                }
                due("beginUpdate(0, 3) after " + state, x.beginUpdate(0, 3), FULL);
                due("beginUpdate(2, 3) after " + state, x.beginUpdate(2, 3), FULL);
                due("version(MEMORY, 0)", x.version(MEMORY, 0), 3);
            }
        }
    }

    private static void theOthersAreNotChanged() {
        sentence("other processes are not changed");
        for (State state : State.values()) {
            WaitFreeSnapshot x = scene(state);
            String before = pictureOfOthers(x, 3, 0) + pictureOfMemory(x, 3);
            due("halt(0) beside " + state, x.halt(0), OK);
            same("the others", pictureOfOthers(x, 3, 0) + pictureOfMemory(x, 3), before);
            int left = 6 - state.steps(3) + (state.isUpdate() ? 1 : 0);
            due("run(1, 64) in " + state, x.run(1, 64), state.inProgress() ? left : NO_WORK);
            update(x, 2, 60);
        }
    }

    private static void allMayBeHalted() {
        sentence("the caller may halt any process for ever: the last one goes on alone, and all may be halted");
        for (int n = 2; n <= 6; n++) {
            WaitFreeSnapshot x = new WaitFreeSnapshot(n, 16);
            for (int p = 0; p < n - 1; p++) {
                x.beginUpdate(p, 1);
                x.run(p, n + p);
                due("halt(" + p + ")", x.halt(p), OK);
            }
            due("steps of an update by the last one", update(x, n - 1, 9), 2 * n + 1);
            x.beginScan(n - 1);
            due("steps of a scan by the last one", x.run(n - 1, 64), 2 * n);
            due("halt(n - 1)", x.halt(n - 1), OK);
            due("schedule of all", x.schedule(0x76543210), 0);
            for (int p = 0; p < n; p++) {
                due("halt(" + p + ") when all are halted", x.halt(p), STOPPED);
            }
        }
    }
}
