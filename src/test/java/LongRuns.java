/**
 * Long runs of calls on the class and on the model side by side. After each call every
 * getter is asked on both, with arguments in range and just out of it.
 */
final class LongRuns extends Check {
    private static final int RUNS_PER_SIZE = 120;
    private static final int CALLS_PER_RUN = 250;

    private static int seed = 20261115;
    private static long borrowed = 0;
    private static long clean = 0;

    public static void main(String[] args) {
        for (int n = 1; n <= 7; n++) {
            for (int i = 0; i < RUNS_PER_SIZE; i++) {
                oneRun(n, limitOf(i), i);
            }
        }
        for (int n = 2; n <= 6; n++) {
            everyoneUpdates(n);
        }
        due("borrowed views are seen often (1: so it is)", borrowed > 10000 ? 1 : 0, 1);
        due("clean views are seen often (1: so it is)", clean > 10000 ? 1 : 0, 1);
        finish();
    }

    private static int limitOf(int i) {
        int[] limits = {128, 3, 128, 40, GREATEST_INT, 5};
        return limits[i % limits.length];
    }

    /** A fixed row of numbers, the same in every run of this test. */
    private static int next(int bound) {
        seed = seed * 1103515245 + 12345;
        return (seed >>> 12) % bound;
    }

    private static void oneRun(int processes, int limit, int style) {
        WaitFreeSnapshot x = new WaitFreeSnapshot(processes, limit);
        Model model = new Model(processes, limit);
        String name = "new(" + processes + ", " + limit + ") run " + style + " call ";
        for (int call = 0; call < CALLS_PER_RUN; call++) {
            oneCall(x, model, style, name + call + ": ");
            compare(x, model, name + call + ": ");
        }
    }

    /** All processes update again and again, one step each in turn of changing order. */
    private static void everyoneUpdates(int n) {
        WaitFreeSnapshot x = new WaitFreeSnapshot(n, 128);
        Model model = new Model(n, 128);
        for (int i = 0; i < 3000; i++) {
            int p = next(n);
            due("beginUpdate(" + p + ", " + i + ")", x.beginUpdate(p, i), model.beginUpdate(p, i));
            due("beginScan(" + p + ")", x.beginScan(p), model.beginScan(p));
            due("run(" + p + ", 1)", x.run(p, 1), model.run(p, 1));
            compare(x, model, "everyone updates, n " + n + ", " + i + ": ");
        }
    }

    private static void oneCall(WaitFreeSnapshot x, Model model, int style, String name) {
        int p = next(12) == 0 ? next(9) - 1 : next(model.n);
        int number = next(100);
        if (number < 12) {
            due(name + "beginScan(" + p + ")", x.beginScan(p), model.beginScan(p));
        } else if (number < 45) {
            int value = next(3) == 0 ? 7 : next(1 << 20) - (1 << 19);
            due(name + "beginUpdate(" + p + ", " + value + ")", x.beginUpdate(p, value), model.beginUpdate(p, value));
        } else if (number < 80) {
            int k = stepsToRun(model.n, style);
            due(name + "run(" + p + ", " + k + ")", x.run(p, k), model.run(p, k));
        } else if (number < 99 || style % 3 == 0) {
            int list = next(1 << 16) << 16 | next(1 << 16);
            list = next(2) == 0 ? list : list & 0x55555555;
            due(name + "schedule(" + list + ")", x.schedule(list), model.schedule(list));
        } else {
            due(name + "halt(" + p + ")", x.halt(p), model.halt(p));
        }
    }

    private static int stepsToRun(int n, int style) {
        int number = next(20);
        if (number == 0) {
            return next(3) - 1;
        }
        if (number < 8) {
            return n;
        }
        if (number < 12) {
            return style % 2 == 0 ? 64 : GREATEST_INT;
        }
        return 1 + next(2 * n);
    }

    private static void compare(WaitFreeSnapshot x, Model model, String name) {
        for (int p = -1; p <= model.n; p++) {
            compareProcess(x, model, p, name);
            for (int kind = -1; kind <= 4; kind++) {
                quietly(name, "version", kind, p, 0, x.version(kind, p), model.version(kind, p));
                for (int j = -1; j <= model.n; j++) {
                    quietly(name, "value", kind, p, j, x.value(kind, p, j), model.value(kind, p, j));
                    quietly(name, "count", kind, p, j, x.count(kind, p, j), model.count(kind, p, j));
                }
            }
        }
        for (int p = 0; p < model.n; p++) {
            viewIsAVersionWithinTheReading(x, model, p, name);
        }
    }

    private static void compareProcess(WaitFreeSnapshot x, Model model, int p, String name) {
        quietly(name, "phase", p, 0, 0, x.phase(p), model.phase(p));
        quietly(name, "steps", p, 0, 0, x.steps(p), model.steps(p));
        quietly(name, "intent", p, 0, 0, x.intent(p), model.intent(p));
        quietly(name, "startedAt", p, 0, 0, x.startedAt(p), model.startedAt(p));
        quietly(name, "endedAt", p, 0, 0, x.endedAt(p), model.endedAt(p));
        quietly(name, "lender", p, 0, 0, x.lender(p), model.lender(p));
        for (int j = -1; j <= model.n; j++) {
            quietly(name, "movedIn", p, j, 0, x.movedIn(p, j), model.movedIn(p, j));
        }
    }

    private static void viewIsAVersionWithinTheReading(WaitFreeSnapshot x, Model model, int p, String name) {
        int version = x.version(SNAPSHOT, p);
        if (version == NONE) {
            return;
        }
        borrowed += x.lender(p) >= 0 ? 1 : 0;
        clean += x.lender(p) == CLEAN ? 1 : 0;
        int sum = 0;
        for (int j = 0; j < model.n; j++) {
            sum += x.count(SNAPSHOT, p, j);
        }
        quietly(name, "the sum of the counts in the view of", p, 0, 0, sum, version);
        boolean within = x.startedAt(p) <= version && version <= x.endedAt(p);
        quietly(name, "the view lies within the reading of", p, 0, 0, within ? 1 : 0, 1);
    }

    /** Like due, but the text is made only if it is needed: there are very many of these. */
    private static void quietly(String name, String getter, int a, int b, int c, int got, int want) {
        if (got != want) {
            due(name + getter + " of " + a + ", " + b + ", " + c, got, want);
        }
    }
}
