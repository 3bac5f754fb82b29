/**
 * What the tests share. The constants are written down here once more, as the
 * document has them, so that a wrong constant in the class shows as a wrong answer.
 */
class Check {
    static final int OK = 0;
    static final int BAD = -1;
    static final int STOPPED = -2;
    static final int BUSY = -3;
    static final int FULL = -4;
    static final int NO_WORK = -5;
    static final int NONE = -6;
    static final int CLEAN = -7;

    static final int IDLE = 0;
    static final int SCANNING = 1;
    static final int UPDATING = 2;
    static final int WRITING = 3;
    static final int HALTED = 4;

    static final int SNAPSHOT = 0;
    static final int HELD = 1;
    static final int MEMORY = 2;
    static final int READS = 3;

    static final int LEAST_INT = Integer.MIN_VALUE;
    static final int GREATEST_INT = Integer.MAX_VALUE;

    private static final int MOST_LINES = 40;

    private static int checked = 0;
    private static int wrong = 0;
    private static String sentence = "";
    private static int sentences = 0;
    private static int checkedBefore = 0;

    /**
     * Names the sentence of the document to which the answers looked at from here on
     * belong. A sentence for which no answer is looked at has no test, which is wrong too.
     */
    static void sentence(String words) {
        closeSentence();
        sentence = words;
        sentences++;
        checkedBefore = checked;
    }

    private static void closeSentence() {
        if (sentences > 0 && checked == checkedBefore) {
            complain("no answer was looked at");
        }
    }

    static void due(String call, long got, long want) {
        checked++;
        if (got != want) {
            complain(call + " answered " + got + ", due is " + want);
        }
    }

    static void same(String what, String got, String want) {
        checked++;
        if (!got.equals(want)) {
            complain(what + " shows\n" + got + "due is\n" + want);
        }
    }

    private static void complain(String line) {
        wrong++;
        if (wrong <= MOST_LINES) {
            System.out.println(sentence.isEmpty() ? line : "[" + sentence + "] " + line);
        }
    }

    static void finish() {
        closeSentence();
        String of = sentences > 0 ? " for " + sentences + " sentences" : "";
        System.out.println(checked + " answers looked at" + of + ", " + wrong + " wrong");
        if (wrong != 0 || checked == 0) {
            System.exit(1);
        }
    }

    /** Process and register numbers that are out of range for an object with n processes. */
    static int[] outOfRange(int n) {
        return new int[] {-1, -2, n, n + 1, 15, 64, LEAST_INT, GREATEST_INT};
    }

    /** Lets p make one whole update, alone; the answer is the number of its steps. */
    static int update(WaitFreeSnapshot x, int p, int value) {
        due("beginUpdate(" + p + ", " + value + ")", x.beginUpdate(p, value), OK);
        return x.run(p, 64);
    }

    /** All that the getters tell of process p itself. */
    static String pictureOf(WaitFreeSnapshot x, int n, int p) {
        StringBuilder s = new StringBuilder("process " + p + ":");
        s.append(" phase ").append(x.phase(p)).append(" steps ").append(x.steps(p));
        s.append(" intent ").append(x.intent(p)).append(" started ").append(x.startedAt(p));
        s.append(" ended ").append(x.endedAt(p)).append(" lender ").append(x.lender(p));
        s.append(" version ").append(x.version(SNAPSHOT, p));
        for (int j = 0; j < n; j++) {
            s.append(" [").append(j).append(": moved ").append(x.movedIn(p, j));
            s.append(" view ").append(x.value(SNAPSHOT, p, j)).append('#').append(x.count(SNAPSHOT, p, j));
            s.append(" read ").append(x.value(READS, p, j)).append('#').append(x.count(READS, p, j)).append(']');
        }
        return s.append('\n').toString();
    }

    /** All that the getters tell of register i. */
    static String pictureOfRegister(WaitFreeSnapshot x, int n, int i) {
        StringBuilder s = new StringBuilder("register " + i + ":");
        s.append(' ').append(x.value(MEMORY, 0, i)).append('#').append(x.count(MEMORY, 0, i));
        s.append(" holds version ").append(x.version(HELD, i));
        for (int j = 0; j < n; j++) {
            s.append(' ').append(x.value(HELD, i, j)).append('#').append(x.count(HELD, i, j));
        }
        return s.append('\n').toString();
    }

    /** All that the getters tell of the registers and of the number of writes. */
    static String pictureOfMemory(WaitFreeSnapshot x, int n) {
        StringBuilder s = new StringBuilder("writes " + x.version(MEMORY, 0) + "\n");
        for (int i = 0; i < n; i++) {
            s.append(pictureOfRegister(x, n, i));
        }
        return s.toString();
    }

    /** All that the getters tell of all processes but one (-1: of all). */
    static String pictureOfOthers(WaitFreeSnapshot x, int n, int but) {
        StringBuilder s = new StringBuilder();
        for (int p = 0; p < n; p++) {
            if (p != but) {
                s.append(pictureOf(x, n, p));
            }
        }
        return s.toString();
    }

    /** All that the getters tell. */
    static String picture(WaitFreeSnapshot x, int n) {
        return pictureOfMemory(x, n) + pictureOfOthers(x, n, -1);
    }

    /**
     * Three processes and three writes. Process 0 has finished a scan that saw register
     * 1 move in collect 2, process 1 has made two updates, process 2 one.
     */
    static WaitFreeSnapshot busyPast(int limit) {
        WaitFreeSnapshot x = new WaitFreeSnapshot(3, limit);
        update(x, 2, 30);
        due("beginScan(0)", x.beginScan(0), OK);
        due("run(0, 3)", x.run(0, 3), 3);
        update(x, 1, 10);
        due("run(0, 64) over collects 2 and 3", x.run(0, 64), 6);
        update(x, 1, 11);
        return x;
    }

    /** A call on an object, with its arguments already chosen. */
    interface Call {
        int on(WaitFreeSnapshot x);
    }

    /** Makes an object and brings it to where a test wants it, twice alike if asked twice. */
    interface Making {
        WaitFreeSnapshot make();
    }

    /**
     * The call gives this answer, and the object is then as its twin, on which the call
     * was not made: at once, and in all that is done with both afterwards.
     */
    static void changesNothing(String name, int n, Making making, Call call, int want) {
        WaitFreeSnapshot x = making.make();
        WaitFreeSnapshot twin = making.make();
        due(name, call.on(x), want);
        due(name + " once more", call.on(x), want);
        goOnAlike(name, x, twin, n);
    }

    /** Two objects tell the same, and go on telling the same under the same calls. */
    static void goOnAlike(String after, WaitFreeSnapshot x, WaitFreeSnapshot twin, int n) {
        same("after " + after + " the object", picture(x, n), picture(twin, n));
        int list = 0x5EED;
        for (int round = 0; round < 12; round++) {
            list = list * 1664525 + 1013904223;
            int p = round % n;
            int near = list & 0x75757575;
            due("schedule after " + after, x.schedule(near), twin.schedule(near));
            due("run after " + after, x.run(p, 3), twin.run(p, 3));
            due("beginUpdate after " + after, x.beginUpdate(p, list), twin.beginUpdate(p, list));
            same("some calls after " + after + " the object", picture(x, n), picture(twin, n));
        }
        for (int i = 0; i < 130 + n; i++) {
            int p = i % n;
            due("beginScan after " + after, x.beginScan(p), twin.beginScan(p));
            due("run after " + after, x.run(p, 64), twin.run(p, 64));
            due("beginUpdate after " + after, x.beginUpdate(p, i), twin.beginUpdate(p, i));
            due("run after " + after, x.run(p, 64), twin.run(p, 64));
        }
        same("many calls after " + after + " the object", picture(x, n), picture(twin, n));
    }
}
