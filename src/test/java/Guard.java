import java.lang.reflect.InvocationTargetException;

/** Runs a test's main method; one that does not end in time has failed, too. */
final class Guard {
    private static final long MOST_MILLIS = 240_000;

    private Guard() {
    }

    public static void main(String[] args) throws ReflectiveOperationException {
        String name = args[0];
        Thread watch = new Thread(() -> {
            try {
                Thread.sleep(MOST_MILLIS);
                System.out.println(name + " does not end");
            } catch (InterruptedException e) {
                System.out.println(name + " was interrupted");
            }
            Runtime.getRuntime().halt(1);
        });
        watch.setDaemon(true);
        watch.start();
        var main = Class.forName(name).getDeclaredMethod("main", String[].class);
        main.setAccessible(true);
        try {
            main.invoke(null, (Object) new String[0]);
        } catch (InvocationTargetException e) {
            e.getCause().printStackTrace();
            System.exit(1);
        }
    }
}
