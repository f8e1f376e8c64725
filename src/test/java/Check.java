import java.util.HashMap;
import java.util.Map;

/** Counts the answers of a test program and tells the wrong ones. */
final class Check {
    /** A call of a desk that is at hand. */
    interface Call {
        void run();
    }

    private final String program;
    private final Map<Run, Whole> wholes = new HashMap<>();
    private String sentence = "";
    private int passed;
    private int failed;

    Check(String program) {
        this.program = program;
    }

    /** The sentence of the document that the checks from here on are about; it is told with a wrong answer. */
    void about(String quoted) {
        sentence = " [" + quoted + "]";
    }

    void same(String what, long got, long due) {
        count(got == due, what + " answered " + got + ", due is " + due);
    }

    void sameDouble(String what, double got, double due) {
        count(got == due, what + " answered " + got + ", due is " + due);
    }

    void sameText(String what, String got, String due) {
        count(got.equals(due), what + " are [" + got + "], due is [" + due + "]");
    }

    void isTrue(String what, boolean holds) {
        count(holds, what + " does not hold");
    }

    /** The class must be the very one: what the machine itself throws is of a class below it. */
    void fails(String what, Class<? extends RuntimeException> due, Call call) {
        String got = "nothing";
        boolean right = false;
        try {
            call.run();
        } catch (RuntimeException e) {
            got = e.getClass().getName();
            right = e.getClass() == due;
        }
        count(right, what + " threw " + got + ", due is " + due.getName());
    }

    /** The call throws, and all is as it was. */
    void leaves(String what, Class<? extends RuntimeException> due, Run before, Run call) {
        leavesWhole(what, due, before, call, wholeOf(before));
    }

    /** The call, not one of an item, is refused for the reason, which is kept; all else is as it was. */
    void refuses(String what, int reason, Run before, Run call) {
        leavesWhole(what, UnsupportedOperationException.class, before, call, wholeOf(before).withRefusal(reason, 0));
    }

    /** As leaves, but the text is fed before the call, and the input, empty at first, is empty again. */
    void leavesEmpty(String what, Class<? extends RuntimeException> due, Run before, String text, Run call) {
        leavesWhole(what, due, before.then(desk -> Desks.feed(desk, text)), call, wholeOf(before));
    }

    /** As refuses, but the text is fed before the call, and the input, empty at first, is empty again. */
    void refusesEmpty(String what, int reason, int item, Run before, String text, Run call) {
        leavesWhole(what, UnsupportedOperationException.class, before.then(desk -> Desks.feed(desk, text)), call,
                wholeOf(before).withRefusal(reason, item));
    }

    /** The text has a fault at the position, which is kept; the input, empty at first, is empty again. */
    void faulty(int position, Run before, String text) {
        leavesWhole("read of " + text, IllegalArgumentException.class, before.then(desk -> Desks.feed(desk, text)),
                Desk::read, wholeOf(before).withFault(position));
    }

    private void leavesWhole(String what, Class<? extends RuntimeException> due, Run before, Run call, Whole dueThen) {
        Desk desk = before.made();
        fails(what, due, () -> call.on(desk));
        String differences = Whole.of(before.then(Run.failing(call))).differencesTo(dueThen);
        count(differences.isEmpty(), what + ": then" + differences);
    }

    private Whole wholeOf(Run run) {
        return wholes.computeIfAbsent(run, Whole::of);
    }

    private void count(boolean right, String wrong) {
        if (right) {
            passed++;
        } else {
            failed++;
            System.out.println(program + ": " + wrong + sentence);
        }
    }

    void end() {
        System.out.println(program + ": " + passed + " passed, " + failed + " failed");
        if (failed != 0 || passed == 0) {
            System.exit(1);
        }
    }
}
