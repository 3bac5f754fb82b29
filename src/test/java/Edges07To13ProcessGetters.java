/** The edges that promises 7 to 13 name: what is told of a process. */
final class Edges07To13ProcessGetters extends Check {
    public static void main(String[] args) {
        phaseOfEveryState();
        phaseOfHaltedOnes();
        phaseOutOfRange();
        stepsOfEveryState();
        stepsNeverBegun();
        stepsOfTheLatestOnly();
        stepsOutOfRange();
        intentInProgress();
        intentHaltedOrNot();
        intentInAnyOtherPhase();
        intentOutOfRange();
        startedAtBeforeTheBegin();
        startedAtStays();
        startedAtNeverBegun();
        startedAtOutOfRange();
        endedAtTheEndOfTheReading();
        endedAtDoesNotCountTheOwnWrite();
        endedAtNeverBegun();
        endedAtBeforeTheEnd();
        endedAtOutOfRange();
        lenderIsARegister();
        lenderIsClean();
        lenderStays();
        lenderNeverBegun();
        lenderBeforeTheEnd();
        lenderOutOfRange();
        movedInTheLatestCollect();
        movedInNotHappened();
        movedInNeverBegun();
        movedInStays();
        movedInOutOfRange();
        nothingChanges();
        finish();
    }

    private static final int N = 3;

    /** Process 1 of 3 in this state, after one write each of the two others. */
    private static WaitFreeSnapshot scene(State state) {
        WaitFreeSnapshot x = new WaitFreeSnapshot(N, 16);
        update(x, 0, 10);
        update(x, 2, 30);
        state.bring(x, N, 1, 20);
        return x;
    }

    private static WaitFreeSnapshot halted(State state) {
        WaitFreeSnapshot x = scene(state);
        x.halt(1);
        return x;
    }

    private interface Asking {
        int of(WaitFreeSnapshot x, int p);
    }

    /** Out of range with every n, at the start, in the midst of things and when all are halted. */
    private static void outOfRangeIs(String name, Asking asking, int want) {
        for (int n = 2; n <= 6; n++) {
            WaitFreeSnapshot x = new WaitFreeSnapshot(n, 16);
            for (int turn = 0; turn < 3; turn++) {
                for (int p : outOfRange(n)) {
                    due(name + "(" + p + ") of " + n, asking.of(x, p), want);
                }
                for (int p = 0; p < n; p++) {
                    due("the next turn of " + p, turn == 0 ? x.beginUpdate(p, 9) : x.halt(p), turn == 2 ? STOPPED : OK);
                }
            }
        }
    }

    private static void phaseOfEveryState() {
        sentence("Promise 7: the phase of p, 0 .. 3");
        for (State state : State.values()) {
            due("phase(1) in " + state, scene(state).phase(1), state.phase);
            due("phase(0) beside " + state, scene(state).phase(0), IDLE);
        }
    }

    private static void phaseOfHaltedOnes() {
        sentence("Promise 7: plus HALTED if p is halted (so 4 .. 7 then)");
        for (State state : State.values()) {
            due("phase(1) halted in " + state, halted(state).phase(1), state.phase + 4);
            due("phase(0) beside it", halted(state).phase(0), IDLE);
        }
    }

    private static void phaseOutOfRange() {
        sentence("Promise 7: p out of range: BAD");
        outOfRangeIs("phase", (x, p) -> x.phase(p), BAD);
    }

    private static void stepsOfEveryState() {
        sentence("Promise 8: the steps of p's latest begun operation, finished or not, read steps and write step together");
        for (State state : State.values()) {
            due("steps(1) in " + state, scene(state).steps(1), state.steps(N));
            due("steps(1) halted in " + state, halted(state).steps(1), state.steps(N));
        }
    }

    private static void stepsNeverBegun() {
        sentence("Promise 8: 0 if p never began one");
        WaitFreeSnapshot x = scene(State.NEVER);
        due("steps(1)", x.steps(1), 0);
        x.run(1, 5);
        x.schedule(0x11111111);
        due("steps(1) after calls without effect", x.steps(1), 0);
        x.halt(1);
        due("steps(1) halted", x.steps(1), 0);
    }

    private static void stepsOfTheLatestOnly() {
        sentence("Promise 8: of the latest begun operation only");
        WaitFreeSnapshot x = scene(State.UPDATE_FINISHED);
        x.beginScan(1);
        due("steps(1) of the next", x.steps(1), 0);
        x.run(1, 2);
        due("steps(1) of the next", x.steps(1), 2);
    }

    private static void stepsOutOfRange() {
        sentence("Promise 8: p out of range: BAD");
        outOfRangeIs("steps", (x, p) -> x.steps(p), BAD);
    }

    private static void intentInProgress() {
        sentence("Promise 9: the value that p's update in progress is to write (phase UPDATING or WRITING)");
        for (State state : State.values()) {
            if (state.phase == UPDATING || state.phase == WRITING) {
                due("intent(1) in " + state, scene(state).intent(1), 20);
            }
        }
    }

    private static void intentHaltedOrNot() {
        sentence("Promise 9: halted or not");
        for (State state : State.values()) {
            boolean told = state.phase == UPDATING || state.phase == WRITING;
            due("intent(1) halted in " + state, halted(state).intent(1), told ? 20 : 0);
        }
    }

    private static void intentInAnyOtherPhase() {
        sentence("Promise 9: in any other phase: 0");
        for (State state : State.values()) {
            if (state.phase == IDLE || state.phase == SCANNING) {
                due("intent(1) in " + state, scene(state).intent(1), 0);
            }
        }
        WaitFreeSnapshot x = scene(State.UPDATE_FINISHED);
        x.beginScan(1);
        due("intent(1) in a scan after an update", x.intent(1), 0);
        x.halt(1);
        due("intent(1) in a halted scan after an update", x.intent(1), 0);
    }

    private static void intentOutOfRange() {
        sentence("Promise 9: p out of range: 0");
        outOfRangeIs("intent", (x, p) -> x.intent(p), 0);
    }

    private static void startedAtBeforeTheBegin() {
        sentence("Promise 10: the number of writes (of all processes) made before p's latest begun operation was begun");
        WaitFreeSnapshot x = new WaitFreeSnapshot(N, 128);
        for (int writes = 0; writes < 128; writes++) {
            x.beginScan(1);
            due("startedAt(1)", x.startedAt(1), writes);
            update(x, writes % 2 * 2, writes);
            due("startedAt(1) after a later write", x.startedAt(1), writes);
            x.run(1, 64);
        }
        x.beginScan(1);
        due("startedAt(1)", x.startedAt(1), 128);
    }

    private static void startedAtStays() {
        sentence("Promise 10: it stays after the operation is finished");
        for (State state : State.values()) {
            WaitFreeSnapshot x = scene(state);
            x.run(1, 64);
            update(x, 0, 1);
            due("startedAt(1) after " + state, x.startedAt(1), state.began() ? 2 : NONE);
            x.halt(1);
            due("startedAt(1) halted after " + state, x.startedAt(1), state.began() ? 2 : NONE);
        }
    }

    private static void startedAtNeverBegun() {
        sentence("Promise 10: p never began an operation: NONE");
        due("startedAt(1)", scene(State.NEVER).startedAt(1), NONE);
        due("startedAt(1) halted", halted(State.NEVER).startedAt(1), NONE);
    }

    private static void startedAtOutOfRange() {
        sentence("Promise 10: p out of range: BAD");
        outOfRangeIs("startedAt", (x, p) -> x.startedAt(p), BAD);
    }

    private static void endedAtTheEndOfTheReading() {
        sentence("Promise 11: the number of writes made when the reading ended, not when its view was true");
        WaitFreeSnapshot x = scene(State.SCAN_IN_COLLECT_2);
        update(x, 0, 11);
        due("run(1, 64)", x.run(1, 64), 2);
        due("endedAt(1) of a clean end", x.endedAt(1), 3);
        due("version(SNAPSHOT, 1)", x.version(SNAPSHOT, 1), 2);
        update(x, 0, 12);
        due("endedAt(1) after later writes", x.endedAt(1), 3);

        WaitFreeSnapshot y = scene(State.SCAN_IN_COLLECT_2);
        update(y, 2, 31);
        update(y, 2, 32);
        update(y, 0, 11);
        due("run(1, 64)", y.run(1, 64), 2);
        due("endedAt(1) of a borrowed end", y.endedAt(1), 5);
        due("version(SNAPSHOT, 1)", y.version(SNAPSHOT, 1), 3);
    }

    private static void endedAtDoesNotCountTheOwnWrite() {
        sentence("Promise 11: the operation's own write step comes later and is not counted");
        WaitFreeSnapshot x = scene(State.UPDATE_BEFORE_ITS_WRITE);
        due("endedAt(1) before the write", x.endedAt(1), 2);
        update(x, 0, 1);
        due("endedAt(1) after another's write", x.endedAt(1), 2);
        x.run(1, 1);
        due("endedAt(1) after the write", x.endedAt(1), 2);
        due("version(MEMORY, 1)", x.version(MEMORY, 1), 4);
    }

    private static void endedAtNeverBegun() {
        sentence("Promise 11: p never began an operation: NONE");
        due("endedAt(1)", scene(State.NEVER).endedAt(1), NONE);
        due("endedAt(1) halted", halted(State.NEVER).endedAt(1), NONE);
    }

    private static void endedAtBeforeTheEnd() {
        sentence("Promise 11: the reading of its latest begun one has not ended: NONE");
        for (State state : State.values()) {
            due("endedAt(1) in " + state, scene(state).endedAt(1), state.hasView() ? 2 : NONE);
            due("endedAt(1) halted in " + state, halted(state).endedAt(1), state.hasView() ? 2 : NONE);
        }
        WaitFreeSnapshot x = scene(State.UPDATE_FINISHED);
        x.beginScan(1);
        due("endedAt(1) of the next", x.endedAt(1), NONE);
    }

    private static void endedAtOutOfRange() {
        sentence("Promise 11: p out of range: BAD");
        outOfRangeIs("endedAt", (x, p) -> x.endedAt(p), BAD);
    }

    private static void lenderIsARegister() {
        sentence("Promise 12: a register number 0 .. n-1 if the reading ended by point 2");
        for (int n = 2; n <= 6; n++) {
            for (int p = 0; p < n; p++) {
                for (int j = 0; j < n; j++) {
                    if (j != p) {
                        WaitFreeSnapshot x = new WaitFreeSnapshot(n, 16);
                        x.beginScan(p);
                        x.run(p, n);
                        update(x, j, 1);
                        update(x, j, 2);
                        x.run(p, 64);
                        due("lender(" + p + ") of " + n, x.lender(p), j);
                    }
                }
            }
        }
    }

    private static void lenderIsClean() {
        sentence("Promise 12: CLEAN if it ended by point 3");
        for (State state : State.values()) {
            if (state.hasView()) {
                due("lender(1) in " + state, scene(state).lender(1), CLEAN);
                due("lender(1) halted in " + state, halted(state).lender(1), CLEAN);
            }
        }
    }

    /** Process 1 is about to write, with a view borrowed from register 0. */
    private static WaitFreeSnapshot borrowed() {
        WaitFreeSnapshot x = scene(State.UPDATE_IN_COLLECT_1);
        x.run(1, 2);
        update(x, 0, 11);
        update(x, 0, 12);
        due("run(1, 1)", x.run(1, 1), 1);
        return x;
    }

    private static void lenderStays() {
        sentence("Promise 12: of the latest begun operation, in phase WRITING, when finished, and when halted");
        WaitFreeSnapshot x = borrowed();
        due("phase(1)", x.phase(1), WRITING);
        due("lender(1) in WRITING", x.lender(1), 0);
        x.run(1, 1);
        update(x, 2, 40);
        due("lender(1) when finished", x.lender(1), 0);
        x.halt(1);
        due("lender(1) when halted", x.lender(1), 0);
    }

    private static void lenderNeverBegun() {
        sentence("Promise 12: p never began an operation: NONE");
        due("lender(1)", scene(State.NEVER).lender(1), NONE);
        due("lender(1) halted", halted(State.NEVER).lender(1), NONE);
    }

    private static void lenderBeforeTheEnd() {
        sentence("Promise 12: the reading of its latest begun one has not ended: NONE");
        for (State state : State.values()) {
            if (!state.hasView()) {
                due("lender(1) in " + state, scene(state).lender(1), NONE);
                due("lender(1) halted in " + state, halted(state).lender(1), NONE);
            }
        }
        WaitFreeSnapshot x = borrowed();
        x.run(1, 1);
        x.beginUpdate(1, 3);
        due("lender(1) of the next", x.lender(1), NONE);
    }

    private static void lenderOutOfRange() {
        sentence("Promise 12: p out of range: BAD");
        outOfRangeIs("lender", (x, p) -> x.lender(p), BAD);
    }

    private static void movedInTheLatestCollect() {
        sentence("Promise 13: the number of the latest collect (2 or more) that found the count of j greater than before");
        WaitFreeSnapshot x = new WaitFreeSnapshot(N, 16);
        x.beginScan(0);
        x.run(0, 3);
        update(x, 1, 1);
        x.run(0, 1);
        due("movedIn(0, 1) before it is read", x.movedIn(0, 1), 0);
        x.run(0, 1);
        due("movedIn(0, 1) in collect 2", x.movedIn(0, 1), 2);
        x.run(0, 1);
        update(x, 2, 1);
        x.run(0, 3);
        due("movedIn(0, 1) is not renewed by collect 3", x.movedIn(0, 1), 2);
        due("movedIn(0, 2) in collect 3", x.movedIn(0, 2), 3);
        update(x, 1, 2);
        due("run(0, 64)", x.run(0, 64), 2);
        due("movedIn(0, 1): the latest one counts", x.movedIn(0, 1), 4);
    }

    private static void movedInNotHappened() {
        sentence("Promise 13: 0 if that has not happened");
        for (State state : State.values()) {
            for (int j = 0; j < N; j++) {
                due("movedIn(1, " + j + ") in " + state, scene(state).movedIn(1, j), 0);
                due("movedIn(1, " + j + ") halted in " + state, halted(state).movedIn(1, j), 0);
            }
        }
    }

    private static void movedInNeverBegun() {
        sentence("Promise 13: 0 if p never began an operation");
        WaitFreeSnapshot x = new WaitFreeSnapshot(6, 16);
        for (int i = 0; i < 4; i++) {
            update(x, 0, i);
        }
        for (int p = 1; p < 6; p++) {
            due("movedIn(" + p + ", 0)", x.movedIn(p, 0), 0);
        }
    }

    private static void movedInStays() {
        sentence("Promise 13: it stays after the operation is finished");
        WaitFreeSnapshot x = borrowed();
        due("movedIn(1, 0) in WRITING", x.movedIn(1, 0), 2);
        x.run(1, 1);
        due("movedIn(1, 0) when finished", x.movedIn(1, 0), 2);
        update(x, 0, 13);
        x.halt(1);
        due("movedIn(1, 0) later and halted", x.movedIn(1, 0), 2);
        WaitFreeSnapshot y = borrowed();
        y.run(1, 1);
        y.beginScan(1);
        due("movedIn(1, 0) of the next", y.movedIn(1, 0), 0);
    }

    private static void movedInOutOfRange() {
        sentence("Promise 13: p or j out of range: BAD");
        outOfRangeIs("movedIn, p", (x, p) -> x.movedIn(p, 0), BAD);
        outOfRangeIs("movedIn, p", (x, p) -> x.movedIn(p, 1), BAD);
        outOfRangeIs("movedIn, j", (x, j) -> x.movedIn(0, j), BAD);
        outOfRangeIs("movedIn, j", (x, j) -> x.movedIn(1, j), BAD);
        outOfRangeIs("movedIn, both", (x, j) -> x.movedIn(j, j), BAD);
        outOfRangeIs("movedIn, p with j = -1", (x, p) -> x.movedIn(p, -1), BAD);
    }

    private static void nothingChanges() {
        sentence("Promises 7 to 13: nothing changes");
        for (State state : State.values()) {
            Making making = () -> scene(state);
            int started = state.began() ? 2 : NONE;
            int ended = state.hasView() ? 2 : NONE;
            changesNothing("phase(1)", N, making, x -> x.phase(1), state.phase);
            changesNothing("steps(1)", N, making, x -> x.steps(1), state.steps(N));
            changesNothing("intent(1)", N, making, x -> x.intent(1), state.phase >= UPDATING ? 20 : 0);
            changesNothing("startedAt(1)", N, making, x -> x.startedAt(1), started);
            changesNothing("endedAt(1)", N, making, x -> x.endedAt(1), ended);
            changesNothing("lender(1)", N, making, x -> x.lender(1), state.hasView() ? CLEAN : NONE);
            changesNothing("movedIn(1, 2)", N, making, x -> x.movedIn(1, 2), 0);
        }
    }
}
