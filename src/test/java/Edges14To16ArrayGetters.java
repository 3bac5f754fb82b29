/** The edges that promises 14, 15 and 16 name: what is told of views, registers and reads. */
final class Edges14To16ArrayGetters extends Check {
    public static void main(String[] args) {
        snapshotWithoutAnOperation();
        snapshotBeforeTheEnd();
        snapshotFromTheEndOn();
        heldBeforeAnyWrite();
        heldNow();
        memoryWhateverTheProcess();
        readsWithoutAnOperation();
        readsNotYetRead();
        readsInTheMidstOfACollect();
        readsAreKept();
        unwrittenSegments();
        noneWithSnapshotAndReadsOnly();
        kindNotZeroToThree();
        firstNumberOutOfRange();
        secondNumberOutOfRange();
        badComesBeforeNone();
        versionOfASnapshot();
        versionHeld();
        versionOfTheMemory();
        versionOfReads();
        versionWithBadArguments();
        nothingChanges();
        finish();
    }

    private static final int N = 3;
    private static final int[] BAD_KINDS = {-1, -2, 4, 5, 7, 8, 256, 65536, LEAST_INT, LEAST_INT + 1, GREATEST_INT};

    /** Process 1 of 3 in this state, after two writes of process 0 and one of process 2. */
    private static WaitFreeSnapshot scene(State state) {
        WaitFreeSnapshot x = new WaitFreeSnapshot(N, 16);
        update(x, 0, 10);
        update(x, 2, 30);
        update(x, 0, 11);
        state.bring(x, N, 1, 20);
        return x;
    }

    private static WaitFreeSnapshot halted(State state) {
        WaitFreeSnapshot x = scene(state);
        x.halt(1);
        return x;
    }

    /** Value and count of the segment are these. */
    private static void told(String in, WaitFreeSnapshot x, int kind, int i, int j, int value, int count) {
        String arguments = "(" + kind + ", " + i + ", " + j + ") " + in;
        due("value" + arguments, x.value(kind, i, j), value);
        due("count" + arguments, x.count(kind, i, j), count);
    }

    /** The whole array as it stands in every scene before process 1 writes. */
    private static void allTold(String in, WaitFreeSnapshot x, int kind, int i) {
        told(in, x, kind, i, 0, 11, 2);
        told(in, x, kind, i, 1, 0, 0);
        told(in, x, kind, i, 2, 30, 1);
    }

    private static void nothingTold(String in, WaitFreeSnapshot x, int kind, int i) {
        for (int j = 0; j < N; j++) {
            told(in, x, kind, i, j, 0, NONE);
        }
    }

    private static void snapshotWithoutAnOperation() {
        sentence("SNAPSHOT: value 0 and count NONE if there is no such operation");
        nothingTold("never", scene(State.NEVER), SNAPSHOT, 1);
        nothingTold("never and halted", halted(State.NEVER), SNAPSHOT, 1);
    }

    private static void snapshotBeforeTheEnd() {
        sentence("SNAPSHOT: value 0 and count NONE if its reading has not ended");
        for (State state : State.values()) {
            if (!state.hasView()) {
                nothingTold(state.name(), scene(state), SNAPSHOT, 1);
                nothingTold(state + " halted", halted(state), SNAPSHOT, 1);
            }
        }
        WaitFreeSnapshot x = scene(State.UPDATE_FINISHED);
        x.beginScan(1);
        nothingTold("in the next operation", x, SNAPSHOT, 1);
    }

    private static void snapshotFromTheEndOn() {
        sentence("SNAPSHOT: told from the end of the reading on, in phase WRITING and after the operation is finished");
        for (State state : State.values()) {
            if (state.hasView()) {
                WaitFreeSnapshot x = scene(state);
                allTold(state.name(), x, SNAPSHOT, 1);
                update(x, 0, 12);
                update(x, 2, 31);
                allTold(state + " after later writes", x, SNAPSHOT, 1);
                x.run(1, 64);
                allTold(state + " run to its end", x, SNAPSHOT, 1);
                x.halt(1);
                allTold(state + " halted", x, SNAPSHOT, 1);
            }
        }
    }

    private static void heldBeforeAnyWrite() {
        sentence("HELD: version 0 of the array, thus value 0, as long as i has made no write; count 0");
        for (State state : State.values()) {
            if (state != State.UPDATE_FINISHED) {
                for (int j = 0; j < N; j++) {
                    told(state.name(), scene(state), HELD, 1, j, 0, 0);
                    told(state + " halted", halted(state), HELD, 1, j, 0, 0);
                }
            }
        }
    }

    private static void heldNow() {
        sentence("HELD: the view held now by register i, which came with its latest write");
        WaitFreeSnapshot x = scene(State.UPDATE_FINISHED);
        allTold("after the write", x, HELD, 1);
        update(x, 0, 12);
        allTold("after another's write", x, HELD, 1);
        x.beginScan(1);
        x.run(1, 64);
        allTold("after a scan by 1", x, HELD, 1);
        State.UPDATE_BEFORE_ITS_WRITE.bring(x, N, 1, 21);
        allTold("before the next write", x, HELD, 1);
        x.run(1, 1);
        told("after the next write", x, HELD, 1, 0, 12, 3);
        told("after the next write", x, HELD, 1, 1, 20, 1);
        told("after the next write", x, HELD, 1, 2, 30, 1);
    }

    private static void memoryWhateverTheProcess() {
        sentence("MEMORY: register j now, whatever i in range is given");
        for (State state : State.values()) {
            WaitFreeSnapshot x = halted(state);
            boolean written = state == State.UPDATE_FINISHED;
            for (int i = 0; i < N; i++) {
                told(state.name(), x, MEMORY, i, 0, 11, 2);
                told(state.name(), x, MEMORY, i, 1, written ? 20 : 0, written ? 1 : 0);
                told(state.name(), x, MEMORY, i, 2, 30, 1);
            }
        }
    }

    private static void readsWithoutAnOperation() {
        sentence("READS: value 0 and count NONE if there is no such operation");
        nothingTold("never", scene(State.NEVER), READS, 1);
        nothingTold("never and halted", halted(State.NEVER), READS, 1);
    }

    private static void readsNotYetRead() {
        sentence("READS: value 0 and count NONE if it has not read j");
        int[] values = {11, 0, 30};
        int[] counts = {2, 0, 1};
        for (State state : State.values()) {
            for (int j = 0; j < N; j++) {
                boolean read = state.hasRead(j, N);
                told(state.name(), scene(state), READS, 1, j, read ? values[j] : 0, read ? counts[j] : NONE);
            }
        }
        WaitFreeSnapshot x = scene(State.SCAN_FINISHED);
        x.beginUpdate(1, 5);
        nothingTold("in the next operation", x, READS, 1);
    }

    private static void readsInTheMidstOfACollect() {
        sentence("READS: a register not yet read in this collect is told as found in the collect before");
        WaitFreeSnapshot x = scene(State.SCAN_IN_COLLECT_2);
        update(x, 0, 12);
        update(x, 2, 31);
        allTold("after two reads too late", x, READS, 1);
        x.run(1, 1);
        told("in the midst", x, READS, 1, 2, 30, 1);
        x.run(1, 1);
        told("at the end of collect 2", x, READS, 1, 0, 11, 2);
        told("at the end of collect 2", x, READS, 1, 2, 31, 2);
        x.run(1, 1);
        told("in the midst of collect 3", x, READS, 1, 0, 12, 3);
        told("in the midst of collect 3", x, READS, 1, 2, 31, 2);
    }

    private static void readsAreKept() {
        sentence("READS: kept when the operation is finished");
        for (State state : State.values()) {
            if (state.hasView()) {
                WaitFreeSnapshot x = scene(state);
                x.run(1, 64);
                update(x, 0, 12);
                update(x, 2, 31);
                allTold("after " + state, x, READS, 1);
                x.halt(1);
                allTold("halted after " + state, x, READS, 1);
            }
        }
    }

    private static void unwrittenSegments() {
        sentence("Promise 15: a segment that had not been written has count 0");
        for (int n = 2; n <= 6; n++) {
            WaitFreeSnapshot x = new WaitFreeSnapshot(n, 16);
            update(x, 0, 0);
            x.beginScan(0);
            x.run(0, 64);
            for (int j = 0; j < n; j++) {
                int count = j == 0 ? 1 : 0;
                told("of " + n, x, SNAPSHOT, 0, j, 0, count);
                told("of " + n, x, HELD, 0, j, 0, 0);
                told("of " + n, x, MEMORY, n - 1, j, 0, count);
                told("of " + n, x, READS, 0, j, 0, count);
            }
        }
    }

    private static void noneWithSnapshotAndReadsOnly() {
        sentence("Promise 15: NONE occurs with SNAPSHOT and READS only");
        for (State state : State.values()) {
            WaitFreeSnapshot x = halted(state);
            for (int j = 0; j < N; j++) {
                due("count(HELD, 1, j) is told (1: so it is)", x.count(HELD, 1, j) >= 0 ? 1 : 0, 1);
                due("count(MEMORY, 1, j) is told (1: so it is)", x.count(MEMORY, 1, j) >= 0 ? 1 : 0, 1);
                due("count(SNAPSHOT, 1, j)", x.count(SNAPSHOT, 1, j) == NONE ? 1 : 0, state.hasView() ? 0 : 1);
                due("count(READS, 1, j)", x.count(READS, 1, j) == NONE ? 1 : 0, state.hasRead(j, N) ? 0 : 1);
            }
        }
    }

    /** All have written twice and are about to write again: nothing that is told is 0. */
    private static WaitFreeSnapshot full(int n) {
        WaitFreeSnapshot x = new WaitFreeSnapshot(n, 128);
        for (int i = 0; i < 2 * n; i++) {
            update(x, i % n, 100 + i);
        }
        for (int p = 0; p < n; p++) {
            State.UPDATE_BEFORE_ITS_WRITE.bring(x, n, p, 200 + p);
        }
        return x;
    }

    private static void kindNotZeroToThree() {
        sentence("kind not 0 .. 3: value 0, count BAD");
        for (int n = 2; n <= 6; n++) {
            WaitFreeSnapshot x = full(n);
            for (int kind : BAD_KINDS) {
                for (int i = 0; i < n; i++) {
                    for (int j = 0; j < n; j++) {
                        told("of " + n, x, kind, i, j, 0, BAD);
                    }
                }
                told("all bad", x, kind, -1, n, 0, BAD);
            }
            for (int kind = SNAPSHOT; kind <= READS; kind++) {
                due("value of kind " + kind + " is told (1: so it is)", x.value(kind, 0, n - 1) != 0 ? 1 : 0, 1);
                due("count of kind " + kind + " is told (1: so it is)", x.count(kind, 0, n - 1) > 0 ? 1 : 0, 1);
            }
        }
    }

    private static void firstNumberOutOfRange() {
        sentence("i out of range (also with MEMORY): value 0, count BAD");
        for (int n = 2; n <= 6; n++) {
            WaitFreeSnapshot x = full(n);
            for (int i : outOfRange(n)) {
                for (int kind = SNAPSHOT; kind <= READS; kind++) {
                    for (int j = 0; j < n; j++) {
                        told("of " + n, x, kind, i, j, 0, BAD);
                    }
                }
            }
        }
    }

    private static void secondNumberOutOfRange() {
        sentence("j out of range (also with MEMORY): value 0, count BAD");
        for (int n = 2; n <= 6; n++) {
            WaitFreeSnapshot x = full(n);
            for (int j : outOfRange(n)) {
                for (int kind = SNAPSHOT; kind <= READS; kind++) {
                    for (int i = 0; i < n; i++) {
                        told("of " + n, x, kind, i, j, 0, BAD);
                    }
                    told("both", x, kind, j, j, 0, BAD);
                }
            }
        }
    }

    private static void badComesBeforeNone() {
        sentence("Promise 15: an argument out of its range is BAD also where there would be NONE");
        for (int n = 2; n <= 6; n++) {
            WaitFreeSnapshot x = new WaitFreeSnapshot(n, 4);
            for (int bad : outOfRange(n)) {
                due("count(SNAPSHOT, 0, " + bad + ")", x.count(SNAPSHOT, 0, bad), BAD);
                due("count(READS, 0, " + bad + ")", x.count(READS, 0, bad), BAD);
                due("count(SNAPSHOT, " + bad + ", 0)", x.count(SNAPSHOT, bad, 0), BAD);
                due("count(READS, " + bad + ", 0)", x.count(READS, bad, 0), BAD);
            }
            due("count(SNAPSHOT, 0, n - 1)", x.count(SNAPSHOT, 0, n - 1), NONE);
            due("count(READS, n - 1, 0)", x.count(READS, n - 1, 0), NONE);
        }
    }

    private static void versionOfASnapshot() {
        sentence("Promise 16, SNAPSHOT: NONE if there is no such operation or its reading has not ended");
        for (State state : State.values()) {
            int want = state.hasView() ? 3 : NONE;
            due("version(SNAPSHOT, 1) in " + state, scene(state).version(SNAPSHOT, 1), want);
            due("version(SNAPSHOT, 1) halted in " + state, halted(state).version(SNAPSHOT, 1), want);
        }
        WaitFreeSnapshot x = scene(State.UPDATE_FINISHED);
        update(x, 0, 12);
        due("version(SNAPSHOT, 1) after later writes", x.version(SNAPSHOT, 1), 3);
        x.beginScan(1);
        due("version(SNAPSHOT, 1) of the next", x.version(SNAPSHOT, 1), NONE);
    }

    private static void versionHeld() {
        sentence("Promise 16, HELD: 0 as long as i has made no write, then that of its latest write");
        for (State state : State.values()) {
            int want = state == State.UPDATE_FINISHED ? 3 : 0;
            due("version(HELD, 1) in " + state, scene(state).version(HELD, 1), want);
            due("version(HELD, 1) halted in " + state, halted(state).version(HELD, 1), want);
        }
        WaitFreeSnapshot x = scene(State.NEVER);
        due("version(HELD, 0)", x.version(HELD, 0), 2);
        due("version(HELD, 2)", x.version(HELD, 2), 1);
    }

    private static void versionOfTheMemory() {
        sentence("Promise 16, MEMORY: the number of writes made so far by all processes together");
        WaitFreeSnapshot x = new WaitFreeSnapshot(6, 128);
        for (int writes = 0; writes <= 128; writes++) {
            for (int i = 0; i < 6; i++) {
                due("version(MEMORY, " + i + ")", x.version(MEMORY, i), writes);
            }
            if (writes < 128) {
                update(x, writes % 5, 7);
            }
        }
    }

    private static void versionOfReads() {
        sentence("Promise 16, READS: always NONE");
        for (State state : State.values()) {
            for (int i = 0; i < N; i++) {
                due("version(READS, " + i + ") in " + state, scene(state).version(READS, i), NONE);
                due("version(READS, " + i + ") halted in " + state, halted(state).version(READS, i), NONE);
            }
        }
    }

    private static void versionWithBadArguments() {
        sentence("Promise 16: kind not 0 .. 3, or i out of range: BAD, before all that follows, for every kind");
        for (int n = 2; n <= 6; n++) {
            WaitFreeSnapshot[] objects = {new WaitFreeSnapshot(n, 4), full(n)};
            for (WaitFreeSnapshot x : objects) {
                for (int i : outOfRange(n)) {
                    for (int kind = SNAPSHOT; kind <= READS; kind++) {
                        due("version(" + kind + ", " + i + ") of " + n, x.version(kind, i), BAD);
                    }
                    due("version(4, " + i + ") of " + n, x.version(4, i), BAD);
                }
                for (int kind : BAD_KINDS) {
                    for (int i = 0; i < n; i++) {
                        due("version(" + kind + ", " + i + ") of " + n, x.version(kind, i), BAD);
                    }
                }
            }
        }
    }

    private static void nothingChanges() {
        sentence("Promises 14 to 16: nothing changes");
        for (State state : State.values()) {
            Making making = () -> scene(state);
            boolean view = state.hasView();
            boolean read = state.hasRead(2, N);
            changesNothing("value(SNAPSHOT, 1, 0)", N, making, x -> x.value(SNAPSHOT, 1, 0), view ? 11 : 0);
            changesNothing("count(SNAPSHOT, 1, 0)", N, making, x -> x.count(SNAPSHOT, 1, 0), view ? 2 : NONE);
            changesNothing("version(SNAPSHOT, 1)", N, making, x -> x.version(SNAPSHOT, 1), view ? 3 : NONE);
            changesNothing("value(HELD, 0, 2)", N, making, x -> x.value(HELD, 0, 2), 30);
            changesNothing("count(HELD, 0, 2)", N, making, x -> x.count(HELD, 0, 2), 1);
            changesNothing("version(HELD, 0)", N, making, x -> x.version(HELD, 0), 2);
            changesNothing("value(MEMORY, 1, 0)", N, making, x -> x.value(MEMORY, 1, 0), 11);
            changesNothing("count(MEMORY, 1, 0)", N, making, x -> x.count(MEMORY, 1, 0), 2);
            changesNothing("value(READS, 1, 2)", N, making, x -> x.value(READS, 1, 2), read ? 30 : 0);
            changesNothing("count(READS, 1, 2)", N, making, x -> x.count(READS, 1, 2), read ? 1 : NONE);
            changesNothing("version(READS, 1)", N, making, x -> x.version(READS, 1), NONE);
        }
    }
}
