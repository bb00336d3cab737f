/** Runs the main of a test; ends with exit code 1 if it throws, or if it does not end in time. */
final class TimedRun {
    private static final long MAX_MILLIS = 120_000;

    private TimedRun() {
    }

    public static void main(String[] args) throws ReflectiveOperationException {
        Thread watch = new Thread(TimedRun::endLate);
        watch.setDaemon(true);
        watch.start();
        Class.forName(args[0]).getMethod("main", String[].class).invoke(null, (Object) new String[0]);
    }

    private static void endLate() {
        try {
            Thread.sleep(MAX_MILLIS);
        } catch (InterruptedException e) {
            return;
        }
        System.out.println("it does not end");
        System.out.flush();
        Runtime.getRuntime().halt(1);
    }
}
