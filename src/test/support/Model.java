import java.util.ArrayList;
import java.util.List;

/**
 * The document told once more, with nothing worked out beforehand: registers hold whole
 * views, operations keep all their reads, and each answer is sought anew in these.
 */
final class Model extends Check {
    /** Values and counts of the whole array, and which version they claim to be. */
    private record View(int[] values, int[] counts, int version) { }

    /** What one read step found, and the number of writes made by then. */
    private record Found(int value, int count, int writes) { }

    private record Write(int process, int value) { }

    private static final class Register {
        int value = 0;
        int count = 0;
        View view;
    }

    private static final class Operation {
        boolean update;
        int value;
        int started;
        List<Found> reads = new ArrayList<>();
        View view = null;
        int ended;
        int lender;
        boolean written = false;

        boolean finished() {
            return update ? written : view != null;
        }
    }

    final int n;
    final int limit;
    private final Register[] registers;
    private final Operation[] latest;
    private final boolean[] halted;
    private final List<Write> writes = new ArrayList<>();
    private int begun = 0;

    Model(int processes, int limit) {
        this.n = Math.max(2, Math.min(6, processes));
        this.limit = Math.max(4, Math.min(128, limit));
        this.registers = new Register[n];
        this.latest = new Operation[n];
        this.halted = new boolean[n];
        for (int j = 0; j < n; j++) {
            registers[j] = new Register();
            registers[j].view = versionOfTheArray(0);
        }
    }

    private View versionOfTheArray(int v) {
        int[] values = new int[n];
        int[] counts = new int[n];
        for (Write write : writes.subList(0, v)) {
            values[write.process()] = write.value();
            counts[write.process()]++;
        }
        return new View(values, counts, v);
    }

    private boolean out(int p) {
        return p < 0 || p > n - 1;
    }

    private boolean working(int p) {
        return latest[p] != null && !latest[p].finished();
    }

    private int begin(int p, boolean update, int value) {
        if (out(p)) {
            return BAD;
        }
        if (halted[p]) {
            return STOPPED;
        }
        if (working(p)) {
            return BUSY;
        }
        if (update && begun == limit) {
            return FULL;
        }
        begun += update ? 1 : 0;
        latest[p] = new Operation();
        latest[p].update = update;
        latest[p].value = value;
        latest[p].started = writes.size();
        return OK;
    }

    int beginScan(int p) {
        return begin(p, false, 0);
    }

    int beginUpdate(int p, int value) {
        return begin(p, true, value);
    }

    int run(int p, int k) {
        if (out(p) || k < 1) {
            return BAD;
        }
        if (halted[p]) {
            return STOPPED;
        }
        if (!working(p)) {
            return NO_WORK;
        }
        int taken = 0;
        while (taken < Math.min(k, 64) && working(p)) {
            step(p);
            taken++;
        }
        return taken;
    }

    int schedule(int list) {
        int taken = 0;
        String hex = String.format("%08x", list);
        for (int digit = 7; digit >= 0; digit--) {
            int p = Character.digit(hex.charAt(digit), 16);
            if (!out(p) && !halted[p] && working(p)) {
                step(p);
                taken++;
            }
        }
        return taken;
    }

    int halt(int p) {
        if (out(p)) {
            return BAD;
        }
        if (halted[p]) {
            return STOPPED;
        }
        halted[p] = true;
        return OK;
    }

    private void step(int p) {
        Operation operation = latest[p];
        if (operation.view != null) {
            writes.add(new Write(p, operation.value));
            registers[p].value = operation.value;
            registers[p].count++;
            registers[p].view = operation.view;
            operation.written = true;
            return;
        }
        int j = operation.reads.size() % n;
        int c = operation.reads.size() / n + 1;
        operation.reads.add(new Found(registers[j].value, registers[j].count, writes.size()));
        if (c >= 2 && registers[j].count >= found(operation, 1, j).count() + 2) {
            end(operation, registers[j].view, j);
        } else if (j == n - 1 && c >= 2 && !someMoved(operation, c)) {
            end(operation, versionOfTheArray(found(operation, c - 1, n - 1).writes()), CLEAN);
        }
    }

    private void end(Operation operation, View view, int lender) {
        operation.view = view;
        operation.lender = lender;
        operation.ended = writes.size();
    }

    private Found found(Operation operation, int c, int j) {
        return operation.reads.get((c - 1) * n + j);
    }

    private int collectsWith(Operation operation, int j) {
        return (operation.reads.size() + n - 1 - j) / n;
    }

    private boolean moved(Operation operation, int c, int j) {
        return found(operation, c, j).count() > found(operation, c - 1, j).count();
    }

    private boolean someMoved(Operation operation, int c) {
        for (int j = 0; j < n; j++) {
            if (moved(operation, c, j)) {
                return true;
            }
        }
        return false;
    }

    int phase(int p) {
        if (out(p)) {
            return BAD;
        }
        int phase = IDLE;
        if (working(p)) {
            phase = !latest[p].update ? SCANNING : latest[p].view == null ? UPDATING : WRITING;
        }
        return phase + (halted[p] ? HALTED : 0);
    }

    int steps(int p) {
        if (out(p)) {
            return BAD;
        }
        return latest[p] == null ? 0 : latest[p].reads.size() + (latest[p].written ? 1 : 0);
    }

    int intent(int p) {
        return !out(p) && working(p) && latest[p].update ? latest[p].value : 0;
    }

    int startedAt(int p) {
        if (out(p)) {
            return BAD;
        }
        return latest[p] == null ? NONE : latest[p].started;
    }

    int endedAt(int p) {
        if (out(p)) {
            return BAD;
        }
        return latest[p] == null || latest[p].view == null ? NONE : latest[p].ended;
    }

    int lender(int p) {
        if (out(p)) {
            return BAD;
        }
        return latest[p] == null || latest[p].view == null ? NONE : latest[p].lender;
    }

    int movedIn(int p, int j) {
        if (out(p) || out(j)) {
            return BAD;
        }
        if (latest[p] != null) {
            for (int c = collectsWith(latest[p], j); c >= 2; c--) {
                if (moved(latest[p], c, j)) {
                    return c;
                }
            }
        }
        return 0;
    }

    int value(int kind, int i, int j) {
        return told(kind, i, j, true, 0, 0);
    }

    int count(int kind, int i, int j) {
        return told(kind, i, j, false, BAD, NONE);
    }

    private int told(int kind, int i, int j, boolean value, int ifBad, int ifNone) {
        if (kind < 0 || kind > 3 || out(i) || out(j)) {
            return ifBad;
        }
        if (kind == MEMORY) {
            return value ? registers[j].value : registers[j].count;
        }
        if (kind == READS) {
            int c = latest[i] == null ? 0 : collectsWith(latest[i], j);
            if (c == 0) {
                return ifNone;
            }
            return value ? found(latest[i], c, j).value() : found(latest[i], c, j).count();
        }
        View view = viewOf(kind, i);
        if (view == null) {
            return ifNone;
        }
        return value ? view.values()[j] : view.counts()[j];
    }

    private View viewOf(int kind, int i) {
        if (kind == HELD) {
            return registers[i].view;
        }
        return latest[i] == null ? null : latest[i].view;
    }

    int version(int kind, int i) {
        if (kind < 0 || kind > 3 || out(i)) {
            return BAD;
        }
        if (kind == MEMORY) {
            return writes.size();
        }
        if (kind == READS || viewOf(kind, i) == null) {
            return NONE;
        }
        return viewOf(kind, i).version();
    }
}
