import java.lang.reflect.Method;

/**
 * Runs the main method of the test that is named, and ends it with exit code 1 if it takes too long: a
 * call that does not end is then a test that fails, not a run that stands still.
 */
public final class TimeLimit {
    // The tests take a few seconds each; the rest is for a slow machine.
    private static final int SECONDS = 120;

    public static void main(String[] args) throws Exception {
        Thread limit = new Thread(TimeLimit::endWhatTakesTooLong);
        limit.setDaemon(true);
        limit.start();
        Method test = Class.forName(args[0]).getDeclaredMethod("main", String[].class);
        // The class of a test need not be public.
        test.setAccessible(true);
        test.invoke(null, (Object) new String[0]);
    }

    private static void endWhatTakesTooLong() {
        try {
            Thread.sleep(SECONDS * 1000L);
        } catch (InterruptedException interrupted) {
            return;
        }
        System.out.println("not ended after " + SECONDS + " seconds");
        System.out.flush();
        Runtime.getRuntime().halt(1);
    }
}
