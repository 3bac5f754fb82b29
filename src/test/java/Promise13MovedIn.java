final class Promise13MovedIn extends Check {
    public static void main(String[] args) {
        tellsTheLatestCollect();
        staysUntilTheNextOperation();
        ownRegisterNeverMoves();
        outOfRangeIsBad();
        finish();
    }

    private static void tellsTheLatestCollect() {
        WaitFreeSnapshot x = new WaitFreeSnapshot(4, 16);
        due("movedIn(0, 1) of one that began nothing", x.movedIn(0, 1), 0);
        x.beginScan(0);
        due("movedIn(0, 1) just begun", x.movedIn(0, 1), 0);
        x.run(0, 4);
        update(x, 1, 1);
        due("movedIn(0, 1) before it is read", x.movedIn(0, 1), 0);
        x.run(0, 1);
        due("movedIn(0, 1) before it is read", x.movedIn(0, 1), 0);
        x.run(0, 1);
        due("movedIn(0, 1) in the midst of collect 2", x.movedIn(0, 1), 2);
        x.run(0, 2);
        update(x, 3, 3);
        x.run(0, 4);
        due("movedIn(0, 3)", x.movedIn(0, 3), 3);
        due("movedIn(0, 1) stays", x.movedIn(0, 1), 2);
        update(x, 2, 2);
        x.run(0, 4);
        due("movedIn(0, 2)", x.movedIn(0, 2), 4);
        update(x, 3, 4);
        x.run(0, 4);
        due("movedIn(0, 3) grows with the read that ends by borrowing", x.movedIn(0, 3), 5);
        due("lender(0)", x.lender(0), 3);
        due("movedIn(0, 0)", x.movedIn(0, 0), 0);
        due("movedIn(1, 0) of another", x.movedIn(1, 0), 0);
    }

    private static void staysUntilTheNextOperation() {
        WaitFreeSnapshot x = busyPast(16);
        due("movedIn(0, 1) finished", x.movedIn(0, 1), 2);
        update(x, 1, 9);
        due("movedIn(0, 1) after later writes", x.movedIn(0, 1), 2);
        x.beginScan(0);
        due("movedIn(0, 1) of the next", x.movedIn(0, 1), 0);
        x.run(0, 64);
        due("movedIn(0, 1) of the next, finished", x.movedIn(0, 1), 0);
    }

    private static void ownRegisterNeverMoves() {
        WaitFreeSnapshot x = new WaitFreeSnapshot(2, 16);
        for (int i = 0; i < 5; i++) {
            due("steps of an update alone", update(x, 0, i), 5);
            due("movedIn(0, 0)", x.movedIn(0, 0), 0);
        }
    }

    private static void outOfRangeIsBad() {
        for (int n = 2; n <= 6; n++) {
            WaitFreeSnapshot x = new WaitFreeSnapshot(n, 4);
            x.beginScan(0);
            for (int bad : outOfRange(n)) {
                due("movedIn(" + bad + ", 0)", x.movedIn(bad, 0), BAD);
                due("movedIn(0, " + bad + ")", x.movedIn(0, bad), BAD);
                due("movedIn(" + bad + ", " + bad + ")", x.movedIn(bad, bad), BAD);
                due("movedIn(1, " + bad + ") of one that began nothing", x.movedIn(1, bad), BAD);
            }
        }
    }
}
