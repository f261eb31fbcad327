import java.lang.reflect.InvocationTargetException;

/** Runs the main method of a test and ends it with exit code 1 if it takes too long: no call may fail to end. */
public final class Watched {
    private Watched() {
    }

    /** A test that never ends would hold up .ci/run for ever instead of failing it. */
    private static void watch(String name, int seconds) {
        Thread watcher = new Thread(() -> {
            try {
                Thread.sleep(1000L * seconds);
            } catch (InterruptedException e) {
                return;
            }
            System.out.println(name + " did not end within " + seconds + " seconds");
            System.out.flush();
            // exit() would wait for whatever the test holds; halt() does not.
            Runtime.getRuntime().halt(1);
        });
        watcher.setDaemon(true);
        watcher.start();
    }

    public static void main(String[] args) throws Throwable {
        watch(args[0], Integer.parseInt(args[1]));
        try {
            Class.forName(args[0]).getMethod("main", String[].class).invoke(null, (Object) new String[0]);
        } catch (InvocationTargetException e) {
            throw e.getCause();
        }
    }
}
