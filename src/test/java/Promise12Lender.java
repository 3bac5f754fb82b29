final class Promise12Lender extends Check {
    public static void main(String[] args) {
        cleanOrNone();
        everyOtherRegisterCanLend();
        borrowedFromABorrower();
        outOfRangeIsBad();
        finish();
    }

    private static void cleanOrNone() {
        WaitFreeSnapshot x = new WaitFreeSnapshot(2, 16);
        due("lender(0) of one that began nothing", x.lender(0), NONE);
        x.beginUpdate(0, 5);
        due("lender(0) just begun", x.lender(0), NONE);
        x.run(0, 3);
        due("lender(0) in the midst", x.lender(0), NONE);
        x.run(0, 1);
        due("lender(0) in phase WRITING", x.lender(0), CLEAN);
        x.run(0, 1);
        due("lender(0) after the write", x.lender(0), CLEAN);
        x.beginScan(0);
        due("lender(0) of the next", x.lender(0), NONE);
        x.halt(0);
        due("lender(0) halted", x.lender(0), NONE);
    }

    private static void everyOtherRegisterCanLend() {
        for (int n = 2; n <= 6; n++) {
            for (int p = 0; p < n; p++) {
                for (int j = 0; j < n; j++) {
                    if (j != p) {
                        lends(n, p, j);
                    }
                }
            }
        }
    }

    private static void lends(int n, int p, int j) {
        WaitFreeSnapshot x = new WaitFreeSnapshot(n, 16);
        x.beginScan(p);
        x.run(p, n);
        update(x, j, 1);
        update(x, j, 2);
        due("run(p, 64) of " + p + " of " + n + " when " + j + " lends", x.run(p, 64), j + 1);
        due("lender(" + p + ")", x.lender(p), j);
        due("version(SNAPSHOT, " + p + ")", x.version(SNAPSHOT, p), 1);
        due("value(SNAPSHOT, " + p + ", " + j + ")", x.value(SNAPSHOT, p, j), 1);
    }

    private static void borrowedFromABorrower() {
        WaitFreeSnapshot x = new WaitFreeSnapshot(3, 16);
        x.beginScan(0);
        x.run(0, 3);
        update(x, 1, 10);
        x.beginUpdate(1, 11);
        x.run(1, 3);
        update(x, 2, 20);
        update(x, 2, 21);
        due("run(1, 64)", x.run(1, 64), 4);
        due("lender(1)", x.lender(1), 2);
        due("run(0, 64)", x.run(0, 64), 2);
        due("lender(0): the register read, not the first lender", x.lender(0), 1);
        due("version(SNAPSHOT, 0)", x.version(SNAPSHOT, 0), 2);
        due("value(SNAPSHOT, 0, 2)", x.value(SNAPSHOT, 0, 2), 20);
    }

    private static void outOfRangeIsBad() {
        for (int n = 2; n <= 6; n++) {
            for (int p : outOfRange(n)) {
                due("lender(" + p + ")", new WaitFreeSnapshot(n, 4).lender(p), BAD);
            }
        }
    }
}
