final class Promise07Phase extends Check {
    public static void main(String[] args) {
        everyPhase();
        everyPhaseHalted();
        outOfRangeIsBad();
        finish();
    }

    /** A process 1 of 2 in the given phase, after it has been in the ones before. */
    private static WaitFreeSnapshot inPhase(int phase) {
        WaitFreeSnapshot x = new WaitFreeSnapshot(2, 4);
        if (phase == SCANNING) {
            x.beginScan(1);
            x.run(1, 3);
        } else if (phase != IDLE) {
            x.beginUpdate(1, 5);
            x.run(1, phase == UPDATING ? 3 : 4);
        }
        return x;
    }

    private static void everyPhase() {
        for (int phase = IDLE; phase <= WRITING; phase++) {
            WaitFreeSnapshot x = inPhase(phase);
            due("phase(1)", x.phase(1), phase);
            due("phase(1) asked again", x.phase(1), phase);
            due("phase(0)", x.phase(0), IDLE);
            x.run(1, 64);
            due("phase(1) when all is done", x.phase(1), IDLE);
        }
    }

    private static void everyPhaseHalted() {
        for (int phase = IDLE; phase <= WRITING; phase++) {
            WaitFreeSnapshot x = inPhase(phase);
            x.halt(1);
            due("phase(1) halted", x.phase(1), phase + HALTED);
            due("phase(0) beside a halted one", x.phase(0), IDLE);
        }
    }

    private static void outOfRangeIsBad() {
        for (int n = 2; n <= 6; n++) {
            for (int p : outOfRange(n)) {
                due("phase(" + p + ")", new WaitFreeSnapshot(n, 4).phase(p), BAD);
            }
            due("phase(n - 1)", new WaitFreeSnapshot(n, 4).phase(n - 1), IDLE);
        }
    }
}
