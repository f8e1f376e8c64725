/** A desk whose calls are counted: the document promises the answers to 512 of them, so no test asks for more. */
final class Desk {
    static final int MOST_CALLS = 512;

    private final SubtitleDesk desk = new SubtitleDesk();
    private int calls;

    int callsLeft() {
        return MOST_CALLS - calls;
    }

    private SubtitleDesk next() {
        calls++;
        if (calls > MOST_CALLS) {
            throw new AssertionError("a test makes more than 512 calls on one object");
        }
        return desk;
    }

    int film(int length) {
        return next().film(length);
    }

    int set(int what, int value) {
        return next().set(what, value);
    }

    int cut(int frame, boolean isCut) {
        return next().cut(frame, isCut);
    }

    int number(int what) {
        return next().number(what);
    }

    int shot(int frame) {
        return next().shot(frame);
    }

    int feed(char character) {
        return next().feed(character);
    }

    int add(int track, int kind, int first, int end) {
        return next().add(track, kind, first, end);
    }

    int remove(int track, int caption) {
        return next().remove(track, caption);
    }

    int move(int track, int caption, int first, int end) {
        return next().move(track, caption, first, end);
    }

    int split(int track, int caption, int place) {
        return next().split(track, caption, place);
    }

    int merge(int track, int caption) {
        return next().merge(track, caption);
    }

    int snap(int track, int caption) {
        return next().snap(track, caption);
    }

    int fit(int track, int caption) {
        return next().fit(track, caption);
    }

    int retime(int track, int from, int to, int from2, int to2) {
        return next().retime(track, from, to, from2, to2);
    }

    int caption(int track, int caption, int what) {
        return next().caption(track, caption, what);
    }

    char letter(int track, int caption, int index) {
        return next().letter(track, caption, index);
    }

    int shown(int track, int frame) {
        return next().shown(track, frame);
    }

    int track(int track, int what) {
        return next().track(track, what);
    }

    int fastest(int track) {
        return next().fastest(track);
    }

    double speed(int track) {
        return next().speed(track);
    }

    int read() {
        return next().read();
    }

    int faultPosition() {
        return next().faultPosition();
    }

    int refusal(boolean isReason) {
        return next().refusal(isReason);
    }

    int undo() {
        return next().undo();
    }

    int saveSnapshot() {
        return next().saveSnapshot();
    }

    int restoreSnapshot() {
        return next().restoreSnapshot();
    }
}
