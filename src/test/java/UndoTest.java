/** Promises 25 to 27: undo, saveSnapshot, restoreSnapshot. */
final class UndoTest {
    private final Check check = new Check("UndoTest");

    public static void main(String[] args) {
        UndoTest test = new UndoTest();
        test.promise25UndoesEachChange();
        test.promise25LatestEight();
        test.promise25FailedCallsAreNoChanges();
        test.promise26SaveSnapshot();
        test.promise27RestoreSnapshot();
        test.check.end();
    }

    /** All of a desk that undo and snapshots are about. */
    private static String state(SubtitleDesk desk) {
        StringBuilder all = new StringBuilder();
        for (int what = 0; what <= 11; what++) {
            all.append(desk.number(what)).append(' ');
        }
        for (int frame = 0; frame < desk.number(6); frame++) {
            all.append((char) ('A' + desk.shot(frame)));
        }
        return all.append(Desks.captions(desk, 0)).append(';').append(Desks.captions(desk, 1)).toString();
    }

    private static void change(SubtitleDesk desk, int which) {
        switch (which) {
            case 0:
                Desks.read(desk, "a.10-40:ab_c;b!12-40:d;c13;a.43-60:e");
                break;
            case 1:
                desk.film(500);
                break;
            case 2:
                desk.set(5, 20);
                break;
            case 3:
                desk.cut(43, true);
                break;
            case 4:
                Desks.add(desk, 0, 0, 80, 90, "abcdefghijklm");
                break;
            case 5:
                desk.move(0, 2, 100, 101);
                break;
            case 6:
                desk.split(0, 0, 2);
                break;
            case 7:
                desk.merge(0, 0);
                break;
            case 8:
                desk.snap(0, 0);
                break;
            case 9:
                desk.fit(0, 2);
                break;
            case 10:
                desk.retime(-1, 0, 10, 100, 120);
                break;
            case 11:
                desk.cut(13, false);
                break;
            default:
                desk.remove(0, 1);
                break;
        }
    }

    private void promise25UndoesEachChange() {
        SubtitleDesk desk = new SubtitleDesk();
        for (int which = 0; which <= 12; which++) {
            String before = state(desk);
            change(desk, which);
            String then = state(desk);
            check.isTrue("change " + which + " makes a difference", !before.equals(then));
            desk.undo();
            check.isTrue("change " + which + " is undone", before.equals(state(desk)));
            change(desk, which);
            check.isTrue("change " + which + " is made again", then.equals(state(desk)));
        }
    }

    private void promise25LatestEight() {
        SubtitleDesk desk = new SubtitleDesk();
        String[] states = new String[13];
        for (int which = 0; which <= 12; which++) {
            states[which] = state(desk);
            change(desk, which);
            check.same("changes", desk.number(12), Math.min(8, which + 1));
        }
        for (int left = 7; left >= 0; left--) {
            check.same("undo", desk.undo(), left);
            check.isTrue("as before change " + (left + 5), state(desk).equals(states[left + 5]));
            check.same("left", desk.number(12), left);
        }
        check.fails("what was forgotten", IllegalStateException.class, desk::undo);
        check.isTrue("nothing is different", state(desk).equals(states[5]));
        desk.set(0, 20);
        check.same("a new change", desk.undo(), 0);
        check.isTrue("is undone", state(desk).equals(states[5]));
        check.fails("forgotten still", IllegalStateException.class, desk::undo);
    }

    private void promise25FailedCallsAreNoChanges() {
        SubtitleDesk desk = Desks.reading("a.10-40:ab_c;b!12-40:d;c13");
        check.fails("film", IllegalArgumentException.class, () -> desk.film(5));
        check.fails("set", IllegalArgumentException.class, () -> desk.set(0, 0));
        check.fails("cut", IndexOutOfBoundsException.class, () -> desk.cut(0, true));
        check.fails("add", UnsupportedOperationException.class, () -> desk.add(0, 0, 100, 110));
        check.fails("remove", IndexOutOfBoundsException.class, () -> desk.remove(0, 1));
        check.fails("split", UnsupportedOperationException.class, () -> desk.split(0, 0, 0));
        check.fails("merge", UnsupportedOperationException.class, () -> desk.merge(0, 0));
        check.fails("retime", UnsupportedOperationException.class, () -> desk.retime(0, 11, 0, 12, 1));
        desk.saveSnapshot();
        Desks.feed(desk, "xy");
        check.same("no changes", desk.number(12), 1);
        desk.undo();
        check.same("captions are undone", desk.number(8) + desk.number(9) + desk.number(7), 0);
        check.same("the input is not", desk.number(13), 2);
        check.same("the refusal is not", desk.refusal(true), 1);
        check.fails("none is left", IllegalStateException.class, desk::undo);
    }

    private void promise26SaveSnapshot() {
        SubtitleDesk desk = new SubtitleDesk();
        check.same("no captions", desk.saveSnapshot(), 0);
        Desks.read(desk, "a.10-40:ab_c;b!12-40:d;c13;a.43-60:e");
        check.same("three captions", desk.saveSnapshot(), 3);
        check.same("is no change", desk.number(12), 1);
        check.same("can still be undone", desk.undo(), 0);
        check.same("is not undone", desk.restoreSnapshot(), 3);
        check.same("captions", desk.number(8), 2);
        desk.remove(0, 0);
        check.same("in place of the earlier one", desk.saveSnapshot(), 2);
        desk.remove(0, 0);
        check.same("the later one", desk.restoreSnapshot(), 2);
    }

    private void promise27RestoreSnapshot() {
        SubtitleDesk desk = new SubtitleDesk();
        check.fails("none", IllegalStateException.class, desk::restoreSnapshot);
        for (int which = 0; which <= 6; which++) {
            change(desk, which);
        }
        String saved = state(desk);
        desk.saveSnapshot();
        for (int which = 7; which <= 12; which++) {
            change(desk, which);
        }
        desk.set(0, 5);
        desk.film(9999);
        Desks.feed(desk, "xyz");
        check.same("captions", desk.restoreSnapshot(), 5);
        check.isTrue("all is as it was saved", saved.equals(state(desk)));
        check.same("nothing can be undone", desk.number(12), 0);
        check.fails("nothing", IllegalStateException.class, desk::undo);
        check.same("the input stays", desk.number(13), 3);
        desk.remove(0, 0);
        check.same("a change after it", desk.undo(), 0);
        desk.remove(0, 0);
        check.same("it is kept", desk.restoreSnapshot(), 5);
        check.isTrue("and the same", saved.equals(state(desk)));
    }
}
