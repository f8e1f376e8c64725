/** Promises 25 to 27: undo, saveSnapshot, restoreSnapshot. */
final class UndoTest {
    private static final Run[] CHANGES = {
        Desks.texts("a.10-40:ab_c;b!12-40:d;c13;a.43-60:e"),
        desk -> desk.film(500),
        desk -> desk.set(5, 20),
        desk -> desk.cut(43, true),
        desk -> Desks.add(desk, 0, 0, 80, 90, "abcdefghijklm"),
        desk -> desk.move(0, 2, 100, 101),
        desk -> desk.split(0, 0, 2),
        desk -> desk.merge(0, 0),
        desk -> desk.snap(0, 0),
        desk -> desk.fit(0, 2),
        desk -> desk.retime(-1, 0, 10, 100, 120),
        desk -> desk.cut(13, false),
        desk -> desk.remove(0, 1),
    };

    private final Check check = new Check("UndoTest");

    public static void main(String[] args) {
        UndoTest test = new UndoTest();
        test.promise25UndoesEachChange();
        test.promise25LatestEight();
        test.promise25FailedCallsAreNoChanges();
        test.promise26SaveSnapshot();
        test.promise27RestoreSnapshot();
        test.check.end();
    }

    private static Run changes(int from, int to) {
        return desk -> {
            for (int which = from; which < to; which++) {
                CHANGES[which].on(desk);
            }
        };
    }

    private void promise25UndoesEachChange() {
        for (int which = 0; which < CHANGES.length; which++) {
            String before = Whole.film(changes(0, which));
            Run change = changes(0, which + 1);
            String then = Whole.film(change);
            check.isTrue("change " + which + " makes a difference", !before.equals(then));
            check.sameText("after undo of change " + which, Whole.film(change.then(Desk::undo)), before);
            check.sameText("after change " + which + " again", Whole.film(change.then(Desk::undo).then(CHANGES[which])), then);
        }
    }

    private void promise25LatestEight() {
        Run run = changes(0, CHANGES.length);
        for (int which = 0; which <= CHANGES.length; which++) {
            check.same("changes", changes(0, which).made().number(12), Math.min(8, which));
        }
        for (int left = 7; left >= 0; left--) {
            check.same("undo", run.made().undo(), left);
            run = run.then(Desk::undo);
            check.sameText("as before change " + (left + 5), Whole.film(run), Whole.film(changes(0, left + 5)));
            check.same("left", run.made().number(12), left);
        }
        check.leaves("what was forgotten", IllegalStateException.class, run, Desk::undo);
        Run again = run.then(desk -> desk.set(0, 20));
        check.same("a new change", again.made().undo(), 0);
        check.sameText("it is undone", Whole.film(again.then(Desk::undo)), Whole.film(run));
        check.leaves("forgotten still", IllegalStateException.class, again.then(Desk::undo), Desk::undo);
    }

    private void promise25FailedCallsAreNoChanges() {
        Desk desk = Desks.reading("a.10-40:ab_c;b!12-40:d;c13");
        check.fails("film", IllegalArgumentException.class, () -> desk.film(5));
        check.fails("set", IllegalArgumentException.class, () -> desk.set(0, 0));
        check.fails("cut", IndexOutOfBoundsException.class, () -> desk.cut(0, true));
        check.fails("add", UnsupportedOperationException.class, () -> desk.add(0, 0, 100, 110));
        check.fails("remove", IndexOutOfBoundsException.class, () -> desk.remove(0, 1));
        check.fails("split", UnsupportedOperationException.class, () -> desk.split(0, 0, 0));
        check.fails("merge", UnsupportedOperationException.class, () -> desk.merge(0, 0));
        check.fails("retime", UnsupportedOperationException.class, () -> desk.retime(0, 11, 0, 12, 1));
        desk.saveSnapshot();
        Desks.feed(desk, "xy");
        check.same("no changes", desk.number(12), 1);
        desk.undo();
        check.same("captions are undone", desk.number(8) + desk.number(9) + desk.number(7), 0);
        check.same("the input is not", desk.number(13), 2);
        check.same("the refusal is not", desk.refusal(true), 1);
        check.fails("none is left", IllegalStateException.class, desk::undo);
    }

    private void promise26SaveSnapshot() {
        Desk desk = new Desk();
        check.same("no captions", desk.saveSnapshot(), 0);
        Desks.read(desk, "a.10-40:ab_c;b!12-40:d;c13;a.43-60:e");
        check.same("three captions", desk.saveSnapshot(), 3);
        check.same("is no change", desk.number(12), 1);
        check.same("can still be undone", desk.undo(), 0);
        check.same("is not undone", desk.restoreSnapshot(), 3);
        check.same("captions", desk.number(8), 2);
        desk.remove(0, 0);
        check.same("in place of the earlier one", desk.saveSnapshot(), 2);
        desk.remove(0, 0);
        check.same("the later one", desk.restoreSnapshot(), 2);
    }

    private void promise27RestoreSnapshot() {
        check.fails("none", IllegalStateException.class, new Desk()::restoreSnapshot);
        Run saved = changes(0, 7);
        Run run = saved.then(Desk::saveSnapshot).then(changes(7, CHANGES.length)).then(desk -> desk.set(0, 5))
                .then(desk -> desk.film(9999)).then(desk -> Desks.feed(desk, "xyz"));
        check.same("captions", run.made().restoreSnapshot(), 5);
        Run restored = run.then(Desk::restoreSnapshot);
        check.sameText("all is as it was saved", Whole.film(restored), Whole.film(saved));
        Desk desk = restored.made();
        check.same("nothing can be undone", desk.number(12), 0);
        check.fails("nothing", IllegalStateException.class, desk::undo);
        check.same("the input stays", desk.number(13), 3);
        desk.remove(0, 0);
        check.same("a change after it", desk.undo(), 0);
        Run twice = restored.then(again -> again.remove(0, 0));
        check.same("it is kept", twice.made().restoreSnapshot(), 5);
        check.sameText("the same", Whole.film(twice.then(Desk::restoreSnapshot)), Whole.film(saved));
    }
}
