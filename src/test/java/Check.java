/** Counts and prints the calls whose answer is not the one that is due. */
final class Check {
    interface Answer {
        int of();
    }

    interface Call {
        void run();
    }

    private final String where;
    private int wrong;
    private int asked;

    Check(String where) {
        this.where = where;
    }

    void due(String call, long got, long want) {
        asked++;
        if (got != want) {
            fault(call + " answered " + got + ", due is " + want);
        }
    }

    void unknown(String call, Call made) {
        refused(call, IllegalArgumentException.class, made);
    }

    void range(String call, Call made) {
        refused(call, IndexOutOfBoundsException.class, made);
    }

    void state(String call, Call made) {
        refused(call, IllegalStateException.class, made);
    }

    void noRoom(String call, Call made) {
        refused(call, UnsupportedOperationException.class, made);
    }

    private void refused(String call, Class<?> want, Call made) {
        asked++;
        try {
            made.run();
        } catch (RuntimeException e) {
            if (e.getClass() != want) {
                fault(call + " threw " + e.getClass().getName() + ", due is " + want.getName());
            }
            return;
        }
        fault(call + " threw nothing, due is " + want.getName());
    }

    void fault(String text) {
        wrong++;
        if (wrong <= 20) {
            System.out.println(where + ": " + text);
        }
    }

    boolean isWrong() {
        return wrong > 0;
    }

    void end() {
        System.out.println(where + ": " + asked + " answers, " + wrong + " wrong");
        if (wrong > 0) {
            System.exit(1);
        }
    }
}
