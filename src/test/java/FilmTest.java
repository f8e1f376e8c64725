/** Promises 1 to 6: a new object, film, set, cut, number, shot. */
final class FilmTest {
    private static final int[] AT_FIRST = {15, 3, 2, 5, 5, 16};
    private static final int[] FROM = {5, 0, 0, 0, 0, 5};
    private static final int[] TO = {30, 12, 9, 25, 25, 24};

    private final Check check = new Check("FilmTest");

    public static void main(String[] args) {
        FilmTest test = new FilmTest();
        test.promise1NewObject();
        test.promise2Film();
        test.promise2FilmRefused();
        test.promise3Set();
        test.promise4Cut();
        test.promise4CutAtTheMost();
        test.promise5Number();
        test.promise5NumberOfProblems();
        test.promise6Shot();
        test.check.end();
    }

    private void promise1NewObject() {
        Desk desk = new Desk();
        for (int what = 0; what < 6; what++) {
            check.same("setting " + what + " at first", desk.number(what), AT_FIRST[what]);
        }
        check.same("length at first", desk.number(6), 1000);
        for (int what = 7; what <= 13; what++) {
            check.same("number " + what + " at first", desk.number(what), 0);
        }
        check.same("shot of the last frame at first", desk.shot(999), 0);
        check.fails("undo at first", IllegalStateException.class, desk::undo);
        check.fails("restore at first", IllegalStateException.class, desk::restoreSnapshot);
        check.fails("fault at first", java.util.NoSuchElementException.class, desk::faultPosition);
        check.fails("reason at first", java.util.NoSuchElementException.class, () -> desk.refusal(true));
        check.fails("item at first", java.util.NoSuchElementException.class, () -> desk.refusal(false));
        check.same("another desk's changes", Desks.reading("c5").number(7), 1);
        check.same("are not this one's", desk.number(7), 0);
    }

    private void promise2Film() {
        Desk desk = new Desk();
        check.same("film(100)", desk.film(100), 1000);
        check.same("film(9999)", desk.film(9999), 100);
        check.same("film(9999) again", desk.film(9999), 9999);
        check.same("each is a change", desk.number(12), 3);
        for (int wrong : new int[] {99, 10000, 0, -1, Integer.MIN_VALUE, Integer.MAX_VALUE}) {
            check.fails("film(" + wrong + ")", IllegalArgumentException.class, () -> desk.film(wrong));
        }
        check.same("the length is kept", desk.number(6), 9999);
        check.same("no change", desk.number(12), 3);
        check.fails("out of range is no refusal", java.util.NoSuchElementException.class, () -> desk.refusal(true));
    }

    private void promise2FilmRefused() {
        Desk desk = Desks.reading("a.10-200:x;b.10-300:x;c399");
        check.fails("a cut at the length", UnsupportedOperationException.class, () -> desk.film(399));
        check.same("its reason", desk.refusal(true), 1);
        check.same("its item", desk.refusal(false), 0);
        check.same("the cut is the last frame", desk.film(400), 1000);
        desk.cut(399, false);
        check.fails("a caption of track 1 behind the film", UnsupportedOperationException.class, () -> desk.film(299));
        check.same("a caption ends with the film", desk.film(300), 400);
        desk.remove(1, 0);
        check.fails("a caption of track 0 behind the film", UnsupportedOperationException.class, () -> desk.film(199));
        check.same("refused leaves the length", desk.number(6), 300);
        check.fails("out of range comes before refused", IllegalArgumentException.class, () -> desk.film(99));
        check.same("changes", desk.number(12), 5);
    }

    private void promise3Set() {
        Desk desk = new Desk();
        for (int what = 0; what < 6; what++) {
            int number = what;
            check.same("set least " + what, desk.set(what, FROM[what]), AT_FIRST[what]);
            check.same("set most " + what, desk.set(what, TO[what]), FROM[what]);
            check.fails("set below " + what, IllegalArgumentException.class, () -> desk.set(number, FROM[number] - 1));
            check.fails("set above " + what, IllegalArgumentException.class, () -> desk.set(number, TO[number] + 1));
            check.same("number " + what, desk.number(what), TO[what]);
        }
        for (int wrong : new int[] {-1, 6, Integer.MIN_VALUE, Integer.MAX_VALUE}) {
            check.fails("set of " + wrong, IllegalArgumentException.class, () -> desk.set(wrong, 5));
        }
        check.same("only 8 are kept", desk.number(12), 8);
        Desk other = new Desk();
        check.same("the same number", other.set(0, 15), 15);
        check.same("is a change too", other.number(12), 1);
    }

    private void promise4Cut() {
        Desk desk = new Desk();
        for (int wrong : new int[] {0, 1000, -1, Integer.MIN_VALUE, Integer.MAX_VALUE}) {
            check.fails("cut " + wrong, IndexOutOfBoundsException.class, () -> desk.cut(wrong, true));
            check.fails("uncut " + wrong, IndexOutOfBoundsException.class, () -> desk.cut(wrong, false));
        }
        check.same("the last frame", desk.cut(999, true), 1);
        check.same("the first one that can be", desk.cut(1, true), 2);
        check.same("again", desk.cut(1, true), 2);
        check.same("one that is not there", desk.cut(2, false), 2);
        check.same("between", desk.cut(500, true), 3);
        check.same("the first one away", desk.cut(1, false), 2);
        check.same("the last one away", desk.cut(999, false), 1);
        check.same("each is a change", desk.number(12), 7);
        check.same("500 is left", desk.shot(500), 1);
        check.same("1 is not", desk.shot(499), 0);
        check.fails("leaves the refusal", java.util.NoSuchElementException.class, () -> desk.refusal(true));
    }

    private void promise4CutAtTheMost() {
        Desk desk = new Desk();
        for (int i = 20; i >= 1; i--) {
            check.same("cut " + i, desk.cut(i * 10, true), 21 - i);
        }
        check.fails("the 21st", IllegalStateException.class, () -> desk.cut(205, true));
        check.fails("no frame comes first", IndexOutOfBoundsException.class, () -> desk.cut(1000, true));
        check.fails("leaves the refusal", java.util.NoSuchElementException.class, () -> desk.refusal(true));
        check.same("one that is there", desk.cut(100, true), 20);
        check.same("away, one that is not there", desk.cut(205, false), 20);
        check.same("away", desk.cut(100, false), 19);
        check.same("room again", desk.cut(205, true), 20);
        check.same("shot of the last frame", desk.shot(999), 20);
    }

    private void promise5Number() {
        Desk desk = Desks.reading("a.10-40:ab;b.20-30:cd;b.35-60:ef;c13", "a!60-70:x;c60;c700");
        check.same("cuts", desk.number(7), 3);
        check.same("captions of 0", desk.number(8), 2);
        check.same("captions of 1", desk.number(9), 2);
        check.same("frames of both", desk.number(10), 10 + 5);
        check.same("changes", desk.number(12), 2);
        Desks.feed(desk, "abc");
        check.same("input", desk.number(13), 3);
        for (int wrong : new int[] {-1, 14, Integer.MIN_VALUE, Integer.MAX_VALUE}) {
            check.fails("number " + wrong, IllegalArgumentException.class, () -> desk.number(wrong));
        }
        check.same("read empties the input", Desks.feed(new Desk(), "x").number(13), 1);
        desk.film(200 + 600);
        check.same("length", desk.number(6), 800);
        desk.undo();
        check.same("length undone", desk.number(6), 1000);
        check.same("input stays", desk.number(13), 3);
    }

    private void promise5NumberOfProblems() {
        Desk desk = Desks.reading("a.100-130:abc;b.103-133:abc", "a!300-310:abc;b*500-530:x");
        check.same("only the one without partner", desk.number(11), 1);
        desk.set(4, 2);
        check.same("both are out of step", desk.number(11), 3);
        desk.cut(302, true);
        check.same("a loose frame of a sign", desk.number(11), 4);
    }

    private void promise6Shot() {
        Desk desk = Desks.reading("c10;c500;c20");
        int[] frames = {0, 9, 10, 19, 20, 499, 500, 999};
        int[] shots = {0, 0, 1, 1, 2, 2, 3, 3};
        for (int i = 0; i < frames.length; i++) {
            check.same("shot of " + frames[i], desk.shot(frames[i]), shots[i]);
        }
        for (int wrong : new int[] {-1, 1000, Integer.MIN_VALUE, Integer.MAX_VALUE}) {
            check.fails("shot of " + wrong, IndexOutOfBoundsException.class, () -> desk.shot(wrong));
        }
        desk.film(600);
        check.fails("shot behind the film", IndexOutOfBoundsException.class, () -> desk.shot(600));
    }
}
