final class Smoke extends Check {
    public static void main(String[] args) {
        busyPast(4);
        finish();
    }
}
