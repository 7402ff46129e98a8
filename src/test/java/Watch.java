/** A call that does not end must not keep a test from failing. */
final class Watch {
    private static final int SECONDS = 300;

    private Watch() {
    }

    static void start() {
        Thread watch = new Thread(() -> {
            try {
                Thread.sleep(1000L * SECONDS);
            } catch (InterruptedException e) {
                return;
            }
            System.out.println("the test did not end in " + SECONDS + " seconds");
            Runtime.getRuntime().halt(1);
        });
        watch.setDaemon(true);
        watch.start();
    }
}
