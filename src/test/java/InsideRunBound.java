/**
 * "A k above 64 counts as 64" (promise 4). A run of at most six processes is finished long
 * before 64 steps, so the object is given more registers here than it can have by any call:
 * one process reads its two collects over 33 of them, 66 steps.
 */
final class InsideRunBound extends Check {
    private static final int REGISTERS = 33;
    private static final int STEPS_OF_A_SCAN = 2 * REGISTERS;

    public static void main(String[] args) throws ReflectiveOperationException {
        notAbove64();
        above64();
        theRestIsLeftToTheNextCall();
        finish();
    }

    private static WaitFreeSnapshot scanOfManyRegisters() throws ReflectiveOperationException {
        WaitFreeSnapshot x = new WaitFreeSnapshot(6, 4);
        new Inside(x).set("processes", REGISTERS);
        due("beginScan(0)", x.beginScan(0), OK);
        return x;
    }

    private static void notAbove64() throws ReflectiveOperationException {
        sentence("a k that is not above 64 counts as it is");
        for (int k = 1; k <= 64; k++) {
            WaitFreeSnapshot x = scanOfManyRegisters();
            due("run(0, " + k + ")", x.run(0, k), k);
            due("steps(0)", x.steps(0), k);
        }
    }

    private static void above64() throws ReflectiveOperationException {
        sentence("a k above 64 counts as 64");
        int[] above = {65, 66, 67, 127, 128, 129, 256, 65536, 65537, GREATEST_INT - 1, GREATEST_INT};
        for (int k : above) {
            WaitFreeSnapshot x = scanOfManyRegisters();
            due("run(0, " + k + ")", x.run(0, k), 64);
            due("steps(0)", x.steps(0), 64);
            due("phase(0)", x.phase(0), SCANNING);
        }
    }

    private static void theRestIsLeftToTheNextCall() throws ReflectiveOperationException {
        sentence("until k are taken or its operation is finished, whichever is first");
        WaitFreeSnapshot x = scanOfManyRegisters();
        due("run(0, 65)", x.run(0, 65), 64);
        due("run(0, 65)", x.run(0, 65), STEPS_OF_A_SCAN - 64);
        due("phase(0)", x.phase(0), IDLE);
    }
}
