/** A run of calls, that can be made again on as many objects as a test needs. */
interface Run {
    void on(Desk desk);

    default Run then(Run next) {
        return desk -> {
            on(desk);
            next.on(desk);
        };
    }

    default Desk made() {
        Desk desk = new Desk();
        on(desk);
        return desk;
    }

    /** The same call, for runs that go on behind an exception. */
    static Run failing(Run call) {
        return desk -> {
            try {
                call.on(desk);
            } catch (RuntimeException e) {
                // What it threw is looked at elsewhere; here it is what it left behind that counts.
                return;
            }
        };
    }
}
