/** Counts the answers of a test program and tells the wrong ones. */
final class Check {
    /** A call of the desk. */
    interface Call {
        void run();
    }

    private final String program;
    private int passed;
    private int failed;

    Check(String program) {
        this.program = program;
    }

    void same(String what, long got, long due) {
        count(got == due, what + " answered " + got + ", due is " + due);
    }

    void sameDouble(String what, double got, double due) {
        count(got == due, what + " answered " + got + ", due is " + due);
    }

    void isTrue(String what, boolean holds) {
        count(holds, what + " does not hold");
    }

    /** The class must be the very one: what the machine itself throws is of a class below it. */
    void fails(String what, Class<? extends RuntimeException> due, Call call) {
        String got = "nothing";
        boolean right = false;
        try {
            call.run();
        } catch (RuntimeException e) {
            got = e.getClass().getName();
            right = e.getClass() == due;
        }
        count(right, what + " threw " + got + ", due is " + due.getName());
    }

    private void count(boolean right, String wrong) {
        if (right) {
            passed++;
        } else {
            failed++;
            System.out.println(program + ": " + wrong);
        }
    }

    void end() {
        System.out.println(program + ": " + passed + " passed, " + failed + " failed");
        if (failed != 0 || passed == 0) {
            System.exit(1);
        }
    }
}
