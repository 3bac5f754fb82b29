/**
 * Rule 7 of LANGUAGE.md: no call ever throws, for any arguments in any state. A condition
 * on the private fields keeps every index within its array. A new object fulfils it, and
 * here each call is made in states that are only known to fulfil it, whether or not a row
 * of calls leads there: it must not throw, and must leave the condition fulfilled.
 */
final class InsideIndexes extends Check {
    private static final int STATES = 60000;
    private static final int MOST = 6;

    private static int seed = 8;
    private static final int[] reached = new int[6];

    public static void main(String[] args) throws ReflectiveOperationException {
        aNewObjectFulfilsIt();
        everyCallKeepsIt();
        everyGetterAnswers();
        theEdgesWereAmongThem();
        finish();
    }

    /** A fixed row of numbers, the same in every run of this test. */
    private static int below(int bound) {
        seed = seed * 1103515245 + 12345;
        return (seed >>> 12) % bound;
    }

    /** A number from least to greatest, and these two more often than the others. */
    private static int between(int least, int greatest) {
        int choice = below(4);
        if (choice == 0) {
            return least;
        }
        return choice == 1 ? greatest : least + below(greatest - least + 1);
    }

    private static boolean within(int number, int least, int greatest) {
        return number >= least && number <= greatest;
    }

    private static boolean isUpdate(int phase) {
        return phase == UPDATING || phase == WRITING;
    }

    private static boolean isReading(int phase) {
        return phase == SCANNING || phase == UPDATING;
    }

    private static int updatesInProgress(int[] phases, int n) {
        int number = 0;
        for (int p = 0; p < n; p++) {
            number += isUpdate(phases[p]) ? 1 : 0;
        }
        return number;
    }

    /** What of the condition is not fulfilled; empty if all of it is. */
    private static String broken(Inside inside) throws ReflectiveOperationException {
        int n = inside.number("processes");
        int limit = inside.number("limit");
        int begun = inside.number("updatesBegun");
        int writes = inside.number("writes");
        if (!within(n, 2, MOST) || !within(limit, 4, 128)) {
            return "the sizes";
        }
        // So there is a row for the write of every update that is still to write.
        int stillToCome = updatesInProgress(inside.numbers("phaseNow"), n);
        if (writes < 0 || !within(begun, writes + stillToCome, limit)) {
            return "writes made " + writes + ", to come " + stillToCome + ", begun " + begun + ", limit " + limit;
        }
        for (int p = 0; p < n; p++) {
            String of = brokenOf(inside, p, n, writes);
            if (!of.isEmpty()) {
                return of + " of process " + p;
            }
        }
        return "";
    }

    private static String brokenOf(Inside inside, int p, int n, int writes) throws ReflectiveOperationException {
        int phase = inside.numbers("phaseNow")[p];
        int collect = inside.numbers("collect")[p];
        int next = inside.numbers("nextRegister")[p];
        int view = inside.numbers("viewVersion")[p];
        if (!within(phase, IDLE, WRITING)) {
            return "the phase";
        }
        if (collect < 1 || !within(next, 0, n - 1)) {
            return "the place in the collects";
        }
        if (!within(inside.numbers("heldVersion")[p], 0, writes)) {
            return "the view held";
        }
        if (!within(view, 0, writes) && (view != NONE || phase == WRITING)) {
            return "the view";
        }
        // Its cell is looked at only from the end of collect 1 on.
        if (collect > 1 && !within(inside.numbers("lastCollectWrites")[p], 0, writes)) {
            return "the writes at the end of the last collect";
        }
        for (int j = 0; j < n; j++) {
            int read = inside.numbers("readVersion")[p * MOST + j];
            boolean hasRead = isReading(phase) && (collect > 1 || j < next);
            if (!within(read, 0, writes) && (read != NONE || hasRead)) {
                return "the read of " + j;
            }
        }
        return "";
    }

    private static void aNewObjectFulfilsIt() throws ReflectiveOperationException {
        sentence("a new object keeps every index within its array");
        int[] sizes = {LEAST_INT, -1, 0, 1, 2, 3, 4, 5, 6, 7, 127, 128, 129, GREATEST_INT};
        for (int processes : sizes) {
            for (int limit : sizes) {
                Inside inside = new Inside(new WaitFreeSnapshot(processes, limit));
                same("new(" + processes + ", " + limit + ")", broken(inside), "");
            }
        }
    }

    /** Some state that fulfils the condition, and has anything at all where it says nothing. */
    private static Inside someState() throws ReflectiveOperationException {
        int n = between(2, MOST);
        int limit = between(4, 128);
        Inside inside = new Inside(new WaitFreeSnapshot(n, limit));
        int begun = between(0, limit);
        int[] phases = inside.numbers("phaseNow");
        for (int p = 0; p < n; p++) {
            int phase = below(4);
            boolean oneTooMany = isUpdate(phase) && updatesInProgress(phases, n) >= begun;
            phases[p] = oneTooMany ? SCANNING : phase;
            inside.flags("isHalted")[p] = below(5) == 0;
        }
        int writes = between(0, begun - updatesInProgress(phases, n));
        inside.set("updatesBegun", begun);
        inside.set("writes", writes);
        for (int p = 0; p < n; p++) {
            fillProcess(inside, p, n, writes);
        }
        fillWithAnything(inside.numbers("versionValue"));
        fillWithAnything(inside.numbers("firstCount"));
        int[] counts = inside.numbers("versionCount");
        for (int i = 0; i < counts.length; i++) {
            counts[i] = between(0, 3);
        }
        return inside;
    }

    private static void fillProcess(Inside inside, int p, int n, int writes) throws ReflectiveOperationException {
        int phase = inside.numbers("phaseNow")[p];
        int collect = between(1, MOST + 2);
        int next = between(0, n - 1);
        inside.numbers("collect")[p] = collect;
        inside.numbers("nextRegister")[p] = next;
        inside.numbers("heldVersion")[p] = between(0, writes);
        inside.numbers("viewVersion")[p] = phase == WRITING ? between(0, writes) : versionOrNone(writes);
        inside.numbers("lastCollectWrites")[p] = between(0, writes);
        inside.numbers("intended")[p] = anything();
        for (int j = 0; j < n; j++) {
            boolean hasRead = isReading(phase) && (collect > 1 || j < next);
            inside.numbers("readVersion")[p * MOST + j] = hasRead ? between(0, writes) : versionOrNone(writes);
            inside.numbers("movedCollect")[p * MOST + j] = between(0, collect);
        }
    }

    private static int versionOrNone(int writes) {
        return below(2) == 0 ? NONE : between(0, writes);
    }

    private static int anything() {
        int choice = below(6);
        if (choice < 2) {
            return choice == 0 ? LEAST_INT : GREATEST_INT;
        }
        return choice == 2 ? below(1 << 20) << 12 | below(1 << 12) : below(8) - 2;
    }

    private static void fillWithAnything(int[] cells) {
        for (int i = 0; i < cells.length; i++) {
            cells[i] = anything();
        }
    }

    private static void everyCallKeepsIt() throws ReflectiveOperationException {
        sentence("no call throws in a state that keeps every index within its array, and each leaves such a state");
        for (int i = 0; i < STATES; i++) {
            Inside inside = someState();
            same("the state made for the test", broken(inside), "");
            noteWhatIsReached(inside);
            String call = "state " + i + ": ";
            try {
                call += oneCall(inside.object, i % 6, inside.number("processes"));
            } catch (RuntimeException thrown) {
                same(call + "the call", thrown.toString(), "");
            }
            same("after " + call + " the state", broken(inside), "");
        }
    }

    private static String oneCall(WaitFreeSnapshot x, int which, int n) {
        int p = below(4) == 0 ? anything() : below(n);
        int other = anything();
        switch (which) {
            case 0:
                return "beginScan(" + p + ") answered " + x.beginScan(p);
            case 1:
                return "beginUpdate(" + p + ", " + other + ") answered " + x.beginUpdate(p, other);
            case 2:
                return "run(" + p + ", " + other + ") answered " + x.run(p, other);
            case 3:
                return "run(" + p + ", 1) answered " + x.run(p, 1);
            case 4:
                int list = below(1 << 16) << 16 | below(1 << 16);
                list &= below(2) == 0 ? 0x55555555 : -1;
                return "schedule(" + list + ") answered " + x.schedule(list);
            default:
                return "halt(" + p + ") answered " + x.halt(p);
        }
    }

    private static void everyGetterAnswers() throws ReflectiveOperationException {
        sentence("no getter throws in a state that keeps every index within its array");
        int[] numbers = {LEAST_INT, -7, -6, -1, 0, 1, 2, 3, 4, 5, 6, 7, 36, 129, 774, GREATEST_INT};
        for (int i = 0; i < STATES / 100; i++) {
            WaitFreeSnapshot x = someState().object;
            int answered = 0;
            try {
                for (int a : numbers) {
                    askOfProcess(x, a);
                    for (int b : numbers) {
                        askOfPair(x, a, b, numbers);
                    }
                    answered++;
                }
            } catch (RuntimeException thrown) {
                same("state " + i + ": a getter", thrown.toString(), "");
            }
            due("state " + i + ": numbers asked with", answered, numbers.length);
        }
    }

    private static void askOfProcess(WaitFreeSnapshot x, int p) {
        x.phase(p);
        x.steps(p);
        x.intent(p);
        x.startedAt(p);
        x.endedAt(p);
        x.lender(p);
    }

    private static void askOfPair(WaitFreeSnapshot x, int a, int b, int[] numbers) {
        x.movedIn(a, b);
        x.version(a, b);
        for (int c : numbers) {
            x.value(a, b, c);
            x.count(a, b, c);
        }
    }

    /** The states in which an index stands at the end of its array, or has least to rest on. */
    private static void noteWhatIsReached(Inside inside) throws ReflectiveOperationException {
        int n = inside.number("processes");
        int[] phases = inside.numbers("phaseNow");
        for (int p = 0; p < n; p++) {
            boolean last = n == MOST && inside.numbers("nextRegister")[p] == MOST - 1;
            boolean first = inside.numbers("collect")[p] == 1;
            reached[0] += phases[p] == WRITING && inside.number("writes") == 127 ? 1 : 0;
            reached[1] += phases[p] == WRITING && inside.number("writes") == 0 ? 1 : 0;
            reached[2] += isReading(phases[p]) && last && first ? 1 : 0;
            reached[3] += isReading(phases[p]) && last && !first ? 1 : 0;
            reached[4] += isReading(phases[p]) && inside.number("writes") == 128 ? 1 : 0;
            reached[5] += isReading(phases[p]) && p == MOST - 1 && last ? 1 : 0;
        }
    }

    private static void theEdgesWereAmongThem() {
        sentence("the states made for the test have each edge often");
        for (int edge = 0; edge < reached.length; edge++) {
            due("edge " + edge + " reached " + reached[edge] + " times (1: often)", reached[edge] >= 100 ? 1 : 0, 1);
        }
    }
}
