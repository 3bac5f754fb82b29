import java.util.ArrayList;
import java.util.List;

/** The edges that the part "What it is" of the document names. */
final class Edges00GeneralRules extends Check {
    public static void main(String[] args) {
        outOfRangeIsBelowZeroOrAboveTheLast();
        gettersChangeNothing();
        refusedCallsChangeNothing();
        theFirstRefusalThatAppliesIsTheAnswer();
        everyViewIsAVersion();
        countsOfAVersionAddUpToItsNumber();
        eachRegisterIsWrittenByItsOwnProcessOnly();
        atMostOneOperationInProgress();
        borrowedFromBorrowersWithinTheReading();
        finish();
    }

    private interface Asking {
        int of(WaitFreeSnapshot x, int number);
    }

    /** A call that takes a process or register number, and its answer if that is out of range. */
    private record Numbered(String name, Asking asking, int ifOut) { }

    private static List<Numbered> callsWithANumber() {
        List<Numbered> calls = new ArrayList<>(List.of(
                new Numbered("beginScan", (x, p) -> x.beginScan(p), BAD),
                new Numbered("beginUpdate", (x, p) -> x.beginUpdate(p, 1), BAD),
                new Numbered("run", (x, p) -> x.run(p, 1), BAD),
                new Numbered("halt", (x, p) -> x.halt(p), BAD),
                new Numbered("phase", (x, p) -> x.phase(p), BAD),
                new Numbered("steps", (x, p) -> x.steps(p), BAD),
                new Numbered("intent", (x, p) -> x.intent(p), 0),
                new Numbered("startedAt", (x, p) -> x.startedAt(p), BAD),
                new Numbered("endedAt", (x, p) -> x.endedAt(p), BAD),
                new Numbered("lender", (x, p) -> x.lender(p), BAD),
                new Numbered("movedIn, p", (x, p) -> x.movedIn(p, 0), BAD),
                new Numbered("movedIn, j", (x, j) -> x.movedIn(0, j), BAD)));
        for (int each = SNAPSHOT; each <= READS; each++) {
            int kind = each;
            calls.add(new Numbered("value " + kind + ", i", (x, i) -> x.value(kind, i, 0), 0));
            calls.add(new Numbered("value " + kind + ", j", (x, j) -> x.value(kind, 0, j), 0));
            calls.add(new Numbered("count " + kind + ", i", (x, i) -> x.count(kind, i, 0), BAD));
            calls.add(new Numbered("count " + kind + ", j", (x, j) -> x.count(kind, 0, j), BAD));
            calls.add(new Numbered("version " + kind, (x, i) -> x.version(kind, i), BAD));
        }
        return calls;
    }

    /** All processes are about to write, and no value told anywhere is 0. */
    private static WaitFreeSnapshot allTold(int processes, int n) {
        WaitFreeSnapshot x = new WaitFreeSnapshot(processes, 128);
        for (int i = 0; i < 2 * n; i++) {
            update(x, i % n, 100 + i);
        }
        for (int p = 0; p < n; p++) {
            State.UPDATE_BEFORE_ITS_WRITE.bring(x, n, p, 200 + p);
        }
        return x;
    }

    private static void outOfRangeIsBelowZeroOrAboveTheLast() {
        sentence("a process or register number is out of range if it is below 0 or above n-1");
        int[] processes = {LEAST_INT, 1, 2, 3, 4, 5, 6, 7, GREATEST_INT};
        int[] sizes = {2, 2, 2, 3, 4, 5, 6, 6, 6};
        for (int i = 0; i < processes.length; i++) {
            for (Numbered call : callsWithANumber()) {
                rangeOf(call, processes[i], sizes[i]);
            }
        }
    }

    private static void rangeOf(Numbered call, int processes, int n) {
        for (int number : outOfRange(n)) {
            int answer = call.asking().of(allTold(processes, n), number);
            due(call.name() + " with " + number + " of " + n, answer, call.ifOut());
        }
        for (int number = 0; number < n; number++) {
            int answer = call.asking().of(allTold(processes, n), number);
            due(call.name() + " with " + number + " of " + n + " is in range (1: so it is)",
                    answer != call.ifOut() ? 1 : 0, 1);
        }
    }

    /** Asks all getters, with arguments in range and out of it. */
    private static void askEverything(WaitFreeSnapshot x, int n) {
        int[] numbers = {LEAST_INT, -1, 0, 1, n - 1, n, 7, 15, GREATEST_INT};
        int[] kinds = {LEAST_INT, -1, SNAPSHOT, HELD, MEMORY, READS, 4, GREATEST_INT};
        for (int p : numbers) {
            x.phase(p);
            x.steps(p);
            x.intent(p);
            x.startedAt(p);
            x.endedAt(p);
            x.lender(p);
            for (int j : numbers) {
                x.movedIn(p, j);
                for (int kind : kinds) {
                    x.value(kind, p, j);
                    x.count(kind, p, j);
                    x.version(kind, p);
                }
            }
        }
    }

    /** One call out of a fixed row; the same for the same number. */
    private static int someCall(WaitFreeSnapshot x, int n, int number) {
        int mixed = number * 1664525 + 1013904223;
        mixed = mixed ^ mixed >>> 15;
        int p = (mixed >>> 8) % n;
        if (number % 70 == 69) {
            return x.halt(p);
        }
        switch (mixed >>> 4 & 7) {
            case 0:
                return x.beginScan(p);
            case 1:
            case 2:
                return x.beginUpdate(p, mixed);
            case 3:
                return x.run(p, 1 + (mixed & 3) * n);
            case 4:
                return x.run(p, n);
            default:
                return x.schedule(mixed & 0x57575757);
        }
    }

    private static void gettersChangeNothing() {
        sentence("getters change nothing");
        for (int n = 2; n <= 6; n++) {
            for (int row = 0; row < 4; row++) {
                WaitFreeSnapshot asked = new WaitFreeSnapshot(n, 40);
                WaitFreeSnapshot left = new WaitFreeSnapshot(n, 40);
                for (int i = 0; i < 150; i++) {
                    int number = row * 1000 + i;
                    askEverything(asked, n);
                    due("call " + number + " of " + n + " processes",
                            someCall(asked, n, number), someCall(left, n, number));
                }
                same("the object that was asked", picture(asked, n), picture(left, n));
            }
        }
    }

    private static void refusedCallsChangeNothing() {
        sentence("a refused call changes nothing");
        for (int n = 2; n <= 6; n++) {
            for (int row = 0; row < 4; row++) {
                WaitFreeSnapshot pressed = new WaitFreeSnapshot(n, 40);
                WaitFreeSnapshot left = new WaitFreeSnapshot(n, 40);
                for (int i = 0; i < 150; i++) {
                    int number = row * 1000 + i;
                    makeRefusedCalls(pressed, n);
                    due("call " + number + " of " + n + " processes",
                            someCall(pressed, n, number), someCall(left, n, number));
                    same("the object with refused calls", picture(pressed, n), picture(left, n));
                }
            }
        }
    }

    private static void makeRefusedCalls(WaitFreeSnapshot x, int n) {
        for (int p : outOfRange(n)) {
            due("beginScan(" + p + ")", x.beginScan(p), BAD);
            due("beginUpdate(" + p + ", 1)", x.beginUpdate(p, 1), BAD);
            due("run(" + p + ", 64)", x.run(p, 64), BAD);
            due("halt(" + p + ")", x.halt(p), BAD);
        }
        for (int p = 0; p < n; p++) {
            int phase = x.phase(p);
            due("run(" + p + ", 0)", x.run(p, 0), BAD);
            if (phase >= HALTED) {
                due("halt(" + p + ")", x.halt(p), STOPPED);
                due("run(" + p + ", 1)", x.run(p, 1), STOPPED);
            } else if (phase == IDLE) {
                due("run(" + p + ", 1)", x.run(p, 1), NO_WORK);
            }
            if (phase != IDLE) {
                due("beginScan(" + p + ")", x.beginScan(p), phase >= HALTED ? STOPPED : BUSY);
                due("beginUpdate(" + p + ", -9)", x.beginUpdate(p, -9), phase >= HALTED ? STOPPED : BUSY);
            }
        }
    }

    /** Process 0 in this state on an object with a limit of 4. */
    private static WaitFreeSnapshot scene(State state, boolean halted, boolean full) {
        WaitFreeSnapshot x = new WaitFreeSnapshot(3, 4);
        state.bring(x, 3, 0, 7);
        int left = state.isUpdate() ? 3 : 4;
        for (int i = 0; full && i < left; i++) {
            update(x, 1, i);
        }
        if (halted) {
            due("halt(0)", x.halt(0), OK);
        }
        return x;
    }

    private static void theFirstRefusalThatAppliesIsTheAnswer() {
        sentence("where a promise lists refusals in this order, the first one that applies is the answer");
        for (State state : State.values()) {
            for (int halted = 0; halted < 2; halted++) {
                for (int full = 0; full < 2; full++) {
                    firstRefusal(state, halted == 1, full == 1);
                }
            }
        }
    }

    private static void firstRefusal(State state, boolean halted, boolean full) {
        String in = " in " + state + (halted ? ", halted" : "") + (full ? ", full" : "");
        int begin = halted ? STOPPED : state.inProgress() ? BUSY : OK;
        int run = halted ? STOPPED : state.inProgress() ? 1 : NO_WORK;
        due("beginScan(0)" + in, scene(state, halted, full).beginScan(0), begin);
        due("beginUpdate(0, 1)" + in, scene(state, halted, full).beginUpdate(0, 1), begin == OK && full ? FULL : begin);
        due("run(0, 1)" + in, scene(state, halted, full).run(0, 1), run);
        due("run(0, 0)" + in, scene(state, halted, full).run(0, 0), BAD);
        due("halt(0)" + in, scene(state, halted, full).halt(0), halted ? STOPPED : OK);
        for (int p : outOfRange(3)) {
            due("beginScan(" + p + ")" + in, scene(state, halted, full).beginScan(p), BAD);
            due("beginUpdate(" + p + ", 1)" + in, scene(state, halted, full).beginUpdate(p, 1), BAD);
            due("run(" + p + ", 1)" + in, scene(state, halted, full).run(p, 1), BAD);
            due("run(" + p + ", 0)" + in, scene(state, halted, full).run(p, 0), BAD);
            due("halt(" + p + ")" + in, scene(state, halted, full).halt(p), BAD);
        }
    }

    private static String arrayNow(WaitFreeSnapshot x, int n) {
        StringBuilder s = new StringBuilder();
        for (int j = 0; j < n; j++) {
            s.append(x.value(MEMORY, 0, j)).append('#').append(x.count(MEMORY, 0, j)).append(' ');
        }
        return s.append('\n').toString();
    }

    private static String view(WaitFreeSnapshot x, int n, int kind, int i) {
        StringBuilder s = new StringBuilder();
        for (int j = 0; j < n; j++) {
            s.append(x.value(kind, i, j)).append('#').append(x.count(kind, i, j)).append(' ');
        }
        return s.append('\n').toString();
    }

    private static void everyViewIsAVersion() {
        sentence("every view is some version of the array: the array as it stood when exactly v writes had been made");
        for (int n = 2; n <= 6; n++) {
            WaitFreeSnapshot x = new WaitFreeSnapshot(n, 128);
            List<String> versions = new ArrayList<>(List.of(arrayNow(x, n)));
            int mixed = n;
            for (int i = 0; i < 6000; i++) {
                mixed = mixed * 1664525 + 1013904223;
                int p = (mixed >>> 16) % n;
                x.beginUpdate(p, mixed);
                x.beginScan(p);
                x.run(p, 1);
                if (x.version(MEMORY, 0) == versions.size()) {
                    versions.add(arrayNow(x, n));
                }
                viewsAreAmong(versions, x, n, p);
            }
            due("writes of " + n + " processes", versions.size() - 1, 128);
        }
    }

    private static void viewsAreAmong(List<String> versions, WaitFreeSnapshot x, int n, int p) {
        int held = x.version(HELD, p);
        same("the view held by register " + p, view(x, n, HELD, p), versions.get(held));
        int seen = x.version(SNAPSHOT, p);
        if (seen != NONE) {
            same("the view of process " + p, view(x, n, SNAPSHOT, p), versions.get(seen));
            due("the view of " + p + " lies within its reading (1: so it is)",
                    x.startedAt(p) <= seen && seen <= x.endedAt(p) ? 1 : 0, 1);
        }
    }

    private static void countsOfAVersionAddUpToItsNumber() {
        sentence("the counts of all segments in version v add up to v");
        for (int n = 2; n <= 6; n++) {
            WaitFreeSnapshot x = new WaitFreeSnapshot(n, 128);
            for (int i = 0; i < 400; i++) {
                someCall(x, n, i % 69);
                for (int kind = SNAPSHOT; kind <= MEMORY; kind++) {
                    for (int p = 0; p < n; p++) {
                        sumIsTheVersion(x, n, kind, p);
                    }
                }
            }
        }
    }

    private static void sumIsTheVersion(WaitFreeSnapshot x, int n, int kind, int i) {
        int version = x.version(kind, i);
        if (version == NONE) {
            return;
        }
        int sum = 0;
        for (int j = 0; j < n; j++) {
            sum += x.count(kind, i, j);
        }
        due("the counts of kind " + kind + ", " + i, sum, version);
    }

    private static void eachRegisterIsWrittenByItsOwnProcessOnly() {
        sentence("register j is written by process j only and read by all");
        for (int n = 2; n <= 6; n++) {
            for (int p = 0; p < n; p++) {
                WaitFreeSnapshot x = new WaitFreeSnapshot(n, 16);
                update(x, p, 40 + p);
                for (int j = 0; j < n; j++) {
                    due("value of " + j + " after a write by " + p, x.value(MEMORY, 0, j), j == p ? 40 + p : 0);
                    due("count of " + j + " after a write by " + p, x.count(MEMORY, 0, j), j == p ? 1 : 0);
                    x.beginScan(j);
                    due("a scan by " + j, x.run(j, 64), 2 * n);
                    due("what " + j + " read of " + p, x.value(READS, j, p), 40 + p);
                }
            }
        }
    }

    private static void atMostOneOperationInProgress() {
        sentence("a process has at most one operation in progress");
        for (State state : State.values()) {
            if (state.inProgress()) {
                WaitFreeSnapshot x = scene(state, false, false);
                due("beginScan(0) in " + state, x.beginScan(0), BUSY);
                due("beginUpdate(0, 3) in " + state, x.beginUpdate(0, 3), BUSY);
                x.run(0, 64);
                due("run(0, 64) when the one is finished", x.run(0, 64), NO_WORK);
            }
        }
    }

    /**
     * Process n-1 makes two updates while n-2 reads, n-2 two while n-3 reads, and so on: each
     * borrows from the next, and all hold what n-1 saw.
     */
    private static void borrowedFromBorrowersWithinTheReading() {
        sentence("even a view borrowed from an operation that had itself borrowed is a version within the own reading");
        for (int n = 3; n <= 6; n++) {
            WaitFreeSnapshot x = new WaitFreeSnapshot(n, 16);
            x.beginScan(0);
            x.run(0, n);
            for (int p = 1; p < n - 1; p++) {
                update(x, p, 10 * p);
                x.beginUpdate(p, 10 * p + 1);
                x.run(p, n);
            }
            update(x, n - 1, 90);
            update(x, n - 1, 91);
            for (int p = n - 2; p >= 0; p--) {
                due("run(" + p + ", 64) of " + n, x.run(p, 64), p == 0 ? 2 : p + 3);
                due("lender(" + p + ")", x.lender(p), p + 1);
                due("version(SNAPSHOT, " + p + ")", x.version(SNAPSHOT, p), n - 1);
                due("value(SNAPSHOT, " + p + ", n - 1)", x.value(SNAPSHOT, p, n - 1), 90);
                due("value(SNAPSHOT, " + p + ", 1)", x.value(SNAPSHOT, p, 1), 10);
                due("startedAt(" + p + ")", x.startedAt(p), p);
                due("endedAt(" + p + ")", x.endedAt(p), 2 * n - 2 - p);
            }
        }
    }
}
