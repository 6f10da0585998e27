/** Compares answers with those that are due, and ends the run with exit code 1 if one was not. */
final class Due {
    private final String test;
    private int checks;
    private int wrong;

    Due(String test) {
        this.test = test;
    }

    /** Ends the run with exit code 1 if it goes on for too long: a call that does not end is wrong, too. */
    static void mustEndWithin(int seconds) {
        Thread watch = new Thread(() -> {
            try {
                Thread.sleep(1000L * seconds);
                System.out.println("not at its end after " + seconds + " seconds");
                Runtime.getRuntime().halt(1);
            } catch (InterruptedException e) {
                Thread.currentThread().interrupt();
            }
        });
        watch.setDaemon(true);
        watch.start();
    }

    void due(String call, long got, long want) {
        checks++;
        if (got != want) {
            wrong++;
            if (wrong <= 50) {
                System.out.println(test + ": " + call + " answered " + got + ", due is " + want);
            }
        }
    }

    void that(String what, boolean holds) {
        due(what, holds ? 1 : 0, 1);
    }

    boolean wrong() {
        return wrong != 0;
    }

    void end() {
        System.out.println(test + ": " + (checks - wrong) + " answers as due, " + wrong + " not");
        if (wrong != 0) {
            System.exit(1);
        }
    }
}
