/** The edges that promise 5 names. */
final class Edges05Schedule extends Check {
    private static final int NOBODY = 0xFFFFFFFF;

    public static void main(String[] args) {
        everyPlaceIsANumber();
        lowestFourBitsFirst();
        highestFourBitsLast();
        highestFourBitsWithTheSignBit();
        numbersAboveTheLast();
        haltedProcesses();
        processesThatBeganNothing();
        processesThatHaveFinished();
        noOperationAtThatMoment();
        theSameNumberSeveralTimes();
        readingThatEndsInTheMidstOfAList();
        neverRefused();
        answersFromZeroToEight();
        aListOfWhichNoStepIsTaken();
        nothingBeyondTheSteps();
        finish();
    }

    /** A list with this number at this place, 0 .. 7, and nobody at the others. */
    private static int at(int place, int number, int rest) {
        return rest & ~(15 << 4 * place) | number << 4 * place;
    }

    private static void due(WaitFreeSnapshot x, int list, int want) {
        due("schedule(0x" + Integer.toHexString(list) + ")", x.schedule(list), want);
    }

    private static WaitFreeSnapshot allScan(int n) {
        WaitFreeSnapshot x = new WaitFreeSnapshot(n, 16);
        for (int p = 0; p < n; p++) {
            x.beginScan(p);
        }
        return x;
    }

    private static void everyPlaceIsANumber() {
        sentence("the 32 bits of list are eight process numbers of four bits each");
        for (int n = 2; n <= 6; n++) {
            for (int place = 0; place < 8; place++) {
                for (int p = 0; p < n; p++) {
                    WaitFreeSnapshot x = allScan(n);
                    due(x, at(place, p, NOBODY), 1);
                    for (int q = 0; q < n; q++) {
                        due("steps(" + q + ") with " + p + " at place " + place, x.steps(q), q == p ? 1 : 0);
                    }
                }
            }
        }
    }

    /** Process 0 is about to write, process 1 to read register 0. */
    private static WaitFreeSnapshot writerAndReader() {
        WaitFreeSnapshot x = new WaitFreeSnapshot(2, 4);
        State.UPDATE_BEFORE_ITS_WRITE.bring(x, 2, 0, 5);
        x.beginScan(1);
        return x;
    }

    private static void lowestFourBitsFirst() {
        sentence("for each of the eight in turn, the lowest four bits first");
        for (int early = 0; early < 8; early++) {
            for (int late = early + 1; late < 8; late++) {
                WaitFreeSnapshot x = writerAndReader();
                due(x, at(late, 1, at(early, 0, NOBODY)), 2);
                due("read after the write, " + early + " and " + late, x.value(READS, 1, 0), 5);
                WaitFreeSnapshot y = writerAndReader();
                due(y, at(late, 0, at(early, 1, NOBODY)), 2);
                due("read before the write, " + early + " and " + late, y.value(READS, 1, 0), 0);
                due("count of that read", y.count(READS, 1, 0), 0);
            }
        }
    }

    private static void highestFourBitsLast() {
        sentence("the highest four bits are the eighth number");
        WaitFreeSnapshot x = writerAndReader();
        due(x, 0x1FFFFFF0, 2);
        due("value(READS, 1, 0): the eighth comes after the first", x.value(READS, 1, 0), 5);
        WaitFreeSnapshot y = writerAndReader();
        due(y, 0x0FFFFFF1, 2);
        due("count(READS, 1, 0): the eighth comes after the first", y.count(READS, 1, 0), 0);
        for (int p = 0; p < 6; p++) {
            WaitFreeSnapshot z = allScan(6);
            due(z, at(7, p, NOBODY), 1);
            due("steps(" + p + ")", z.steps(p), 1);
        }
    }

    private static void highestFourBitsWithTheSignBit() {
        sentence("the highest four bits (the sign bit among them) are 0 .. 15 like the others");
        for (int n = 2; n <= 6; n++) {
            for (int number = 8; number < 16; number++) {
                WaitFreeSnapshot x = allScan(n);
                String before = picture(x, n);
                due(x, at(7, number, NOBODY), 0);
                same("the object after an eighth number of " + number, picture(x, n), before);
            }
        }
        WaitFreeSnapshot x = allScan(4);
        due(x, LEAST_INT, 7);
        due("steps(0): seven times 0, then 8", x.steps(0), 7);
        WaitFreeSnapshot y = allScan(4);
        due(y, GREATEST_INT, 0);
        due(y, -1, 0);
        due(y, 0x91111111, 7);
        due("steps(1): seven times 1, then 9", y.steps(1), 7);
    }

    private static void numbersAboveTheLast() {
        sentence("if the number is above n-1, nothing happens");
        for (int n = 2; n <= 6; n++) {
            for (int number = n; number < 16; number++) {
                for (int place = 0; place < 8; place++) {
                    WaitFreeSnapshot x = allScan(n);
                    String before = picture(x, n);
                    due(x, at(place, number, NOBODY), 0);
                    same("the object of " + n + " after " + number, picture(x, n), before);
                }
            }
            WaitFreeSnapshot x = allScan(n);
            due(x, 0x76543210, n);
            due(x, 0xFEDCBA98, 0);
        }
    }

    private static void haltedProcesses() {
        sentence("if that process is halted, nothing happens");
        for (State state : State.values()) {
            for (int place = 0; place < 8; place++) {
                WaitFreeSnapshot x = new WaitFreeSnapshot(3, 16);
                state.bring(x, 3, 1, 7);
                x.halt(1);
                String before = picture(x, 3);
                due(x, at(place, 1, NOBODY), 0);
                due(x, 0x11111111, 0);
                same("the object with 1 halted in " + state, picture(x, 3), before);
            }
        }
    }

    private static void processesThatBeganNothing() {
        sentence("if that process has no operation in progress: it never began one");
        for (int n = 2; n <= 6; n++) {
            WaitFreeSnapshot x = new WaitFreeSnapshot(n, 16);
            String before = picture(x, n);
            for (int p = 0; p < n; p++) {
                due(x, p * 0x11111111, 0);
            }
            same("a new object", picture(x, n), before);
        }
    }

    private static void processesThatHaveFinished() {
        sentence("if that process has no operation in progress: it has finished one");
        State[] finished = {State.SCAN_FINISHED, State.UPDATE_FINISHED};
        for (State state : finished) {
            WaitFreeSnapshot x = new WaitFreeSnapshot(3, 16);
            state.bring(x, 3, 1, 7);
            String before = picture(x, 3);
            due(x, 0x11111111, 0);
            same("the object with 1 in " + state, picture(x, 3), before);
        }
    }

    private static void noOperationAtThatMoment() {
        sentence("no operation in progress at that moment: an operation finished by an earlier number of the list");
        WaitFreeSnapshot x = new WaitFreeSnapshot(2, 4);
        x.beginScan(0);
        due(x, 0x00000000, 4);
        due("steps(0) of a scan", x.steps(0), 4);
        x.beginUpdate(0, 3);
        due(x, 0x00000000, 5);
        due("steps(0) of an update", x.steps(0), 5);
        due("count(MEMORY, 0, 0)", x.count(MEMORY, 0, 0), 1);
        x.beginScan(1);
        x.run(1, 3);
        x.beginUpdate(0, 4);
        due(x, 0x01010101, 5);
        due("steps(1)", x.steps(1), 4);
        due("steps(0)", x.steps(0), 4);
    }

    private static void theSameNumberSeveralTimes() {
        sentence("the same number may occur several times");
        for (int times = 0; times <= 8; times++) {
            int list = NOBODY;
            for (int place = 0; place < times; place++) {
                list = at(place, 2, list);
            }
            WaitFreeSnapshot x = allScan(6);
            due(x, list, times);
            due("steps(2)", x.steps(2), times);
            due("steps(1)", x.steps(1), 0);
        }
        WaitFreeSnapshot x = allScan(6);
        due(x, 0x10310130, 8);
        due("steps(0)", x.steps(0), 3);
        due("steps(1)", x.steps(1), 3);
        due("steps(3)", x.steps(3), 2);
    }

    private static void readingThatEndsInTheMidstOfAList() {
        sentence("that process takes one step as described in Promise 4: a reading that ends goes on to the write");
        WaitFreeSnapshot x = new WaitFreeSnapshot(2, 16);
        State.UPDATE_IN_COLLECT_2.bring(x, 2, 0, 5);
        update(x, 1, 8);
        update(x, 1, 9);
        due(x, 0xFFFFFFF0, 1);
        due("phase(0): borrowed", x.phase(0), WRITING);
        due("lender(0)", x.lender(0), 1);
        due(x, 0x00FFFFFF, 1);
        due("phase(0): written", x.phase(0), IDLE);
        due("version(HELD, 0)", x.version(HELD, 0), 1);
    }

    private static void neverRefused() {
        sentence("the call is never refused, whatever the list");
        int[] lists = {0, 1, -1, LEAST_INT, GREATEST_INT, 0x0F0F0F0F, 0xF0F0F0F0, 0x88888888, 0x77777777};
        for (int n = 2; n <= 6; n++) {
            for (int list : lists) {
                WaitFreeSnapshot x = new WaitFreeSnapshot(n, 4);
                due(x, list, 0);
                for (int p = 0; p < n; p++) {
                    x.halt(p);
                }
                due(x, list, 0);
            }
        }
    }

    private static void answersFromZeroToEight() {
        sentence("the answer is how many steps were taken, 0 .. 8");
        int list = 99;
        for (int i = 0; i < 3000; i++) {
            list = list * 1664525 + 1013904223;
            int n = 2 + i % 5;
            WaitFreeSnapshot x = allScan(n);
            int steps = 0;
            int answer = x.schedule(list);
            for (int p = 0; p < n; p++) {
                steps += x.steps(p);
            }
            due("schedule(" + list + ") of " + n, answer, steps);
        }
        due(allScan(6), 0x00000000, 8);
        due(allScan(6), 0x23451234, 8);
        due(allScan(6), NOBODY, 0);
    }

    /** Everyone is in another state, 2 is halted, 3 has begun nothing. */
    private static WaitFreeSnapshot mixed() {
        WaitFreeSnapshot x = new WaitFreeSnapshot(4, 16);
        State.SCAN_FINISHED.bring(x, 4, 0, 0);
        State.UPDATE_FINISHED.bring(x, 4, 1, 9);
        State.UPDATE_BEFORE_ITS_WRITE.bring(x, 4, 2, 9);
        x.halt(2);
        return x;
    }

    private static void aListOfWhichNoStepIsTaken() {
        sentence("a list of which no step is taken: the answer is 0 and nothing changes");
        int[] lists = {0x00000000, 0x11111111, 0x22222222, 0x33333333, 0x32103210, 0xF3E2D1C0, NOBODY, LEAST_INT};
        for (int list : lists) {
            changesNothing("schedule(0x" + Integer.toHexString(list) + ")", 4, Edges05Schedule::mixed, x -> x.schedule(list), 0);
        }
    }

    private static void nothingBeyondTheSteps() {
        sentence("nothing changes beyond what these steps change");
        for (int n = 2; n <= 6; n++) {
            WaitFreeSnapshot x = new WaitFreeSnapshot(n, 128);
            WaitFreeSnapshot twin = new WaitFreeSnapshot(n, 128);
            int list = n;
            for (int i = 0; i < 120; i++) {
                list = list * 1664525 + 1013904223;
                x.beginUpdate(i % n, i);
                twin.beginUpdate(i % n, i);
                due(x, list, oneByOne(twin, list));
                same("the object after schedule", picture(x, n), picture(twin, n));
            }
        }
    }

    private static int oneByOne(WaitFreeSnapshot twin, int list) {
        int taken = 0;
        for (int place = 0; place < 8; place++) {
            int number = (int) ((list & 0xFFFFFFFFL) / (1L << 4 * place) % 16);
            taken += twin.run(number, 1) == 1 ? 1 : 0;
        }
        return taken;
    }
}
