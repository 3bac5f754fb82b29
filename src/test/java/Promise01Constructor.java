final class Promise01Constructor extends Check {
    public static void main(String[] args) {
        processesAreClamped();
        limitIsClamped();
        neitherChangesAfterwards();
        everythingIsEmptyAtFirst();
        objectsAreIndependent();
        finish();
    }

    private static int processesOf(WaitFreeSnapshot x) {
        int n = 0;
        while (n < 100 && x.phase(n) != BAD) {
            n++;
        }
        return n;
    }

    private static int updatesUntilFull(WaitFreeSnapshot x) {
        int made = 0;
        while (made < 1000 && x.beginUpdate(made % 2, made) == OK) {
            x.run(made % 2, 64);
            made++;
        }
        due("beginUpdate(0, 1) after " + made + " updates", x.beginUpdate(0, 1), FULL);
        return made;
    }

    private static void processesAreClamped() {
        int[] given = {LEAST_INT, -6, -1, 0, 1, 2, 3, 4, 5, 6, 7, 8, 128, GREATEST_INT};
        int[] want = {2, 2, 2, 2, 2, 2, 3, 4, 5, 6, 6, 6, 6, 6};
        for (int i = 0; i < given.length; i++) {
            due("n of new(" + given[i] + ", 10)", processesOf(new WaitFreeSnapshot(given[i], 10)), want[i]);
        }
    }

    private static void limitIsClamped() {
        int[] given = {LEAST_INT, -128, -1, 0, 1, 3, 4, 5, 6, 64, 127, 128, 129, 1000, GREATEST_INT};
        int[] want = {4, 4, 4, 4, 4, 4, 4, 5, 6, 64, 127, 128, 128, 128, 128};
        for (int i = 0; i < given.length; i++) {
            due("limit of new(2, " + given[i] + ")", updatesUntilFull(new WaitFreeSnapshot(2, given[i])), want[i]);
            due("limit of new(6, " + given[i] + ")", updatesUntilFull(new WaitFreeSnapshot(6, given[i])), want[i]);
        }
    }

    private static void neitherChangesAfterwards() {
        WaitFreeSnapshot x = new WaitFreeSnapshot(4, 5);
        due("updates until full", updatesUntilFull(x), 5);
        x.halt(3);
        x.halt(0);
        due("n after all updates and two halts", processesOf(x), 4);
        due("further updates until full, by a living process", x.beginUpdate(1, 9), FULL);
        due("phase(4)", x.phase(4), BAD);
    }

    private static void everythingIsEmptyAtFirst() {
        for (int n = 2; n <= 6; n++) {
            WaitFreeSnapshot x = new WaitFreeSnapshot(n, 4);
            for (int p = 0; p < n; p++) {
                processIsEmpty(x, n, p);
            }
        }
    }

    private static void processIsEmpty(WaitFreeSnapshot x, int n, int p) {
        String of = " of " + p + " of " + n + " at first";
        due("phase" + of, x.phase(p), IDLE);
        due("steps" + of, x.steps(p), 0);
        due("intent" + of, x.intent(p), 0);
        due("startedAt" + of, x.startedAt(p), NONE);
        due("endedAt" + of, x.endedAt(p), NONE);
        due("lender" + of, x.lender(p), NONE);
        due("version(SNAPSHOT)" + of, x.version(SNAPSHOT, p), NONE);
        due("version(HELD)" + of, x.version(HELD, p), 0);
        due("version(MEMORY)" + of, x.version(MEMORY, p), 0);
        due("version(READS)" + of, x.version(READS, p), NONE);
        due("run" + of, x.run(p, 1), NO_WORK);
        for (int j = 0; j < n; j++) {
            due("movedIn " + j + of, x.movedIn(p, j), 0);
            for (int kind = 0; kind < 4; kind++) {
                boolean known = kind == HELD || kind == MEMORY;
                due("value " + kind + ", " + j + of, x.value(kind, p, j), 0);
                due("count " + kind + ", " + j + of, x.count(kind, p, j), known ? 0 : NONE);
            }
        }
    }

    private static void objectsAreIndependent() {
        WaitFreeSnapshot x = new WaitFreeSnapshot(2, 4);
        WaitFreeSnapshot y = new WaitFreeSnapshot(2, 4);
        String before = picture(y, 2);
        due("updates of the other object", updatesUntilFull(x), 4);
        x.halt(1);
        same("an object after calls on another", picture(y, 2), before);
        due("updates of this object", updatesUntilFull(y), 4);
    }
}
