import java.util.NoSuchElementException;

/** The boundary cases of the film, its cuts and the numbers: promises 1 to 6, sentence by sentence. */
final class FilmEdgesTest {
    private static final Run BUSY = Desks::busy;
    private static final Run FED = BUSY.then(desk -> Desks.feed(desk, "q_r"));
    private static final int[] EXTREMES = {Integer.MIN_VALUE, Integer.MIN_VALUE + 1, -2, Integer.MAX_VALUE - 1, Integer.MAX_VALUE};
    private static final int[] LENGTHS = {100, 101, 1000, 9998, 9999};

    private final Check check = new Check("FilmEdgesTest");

    public static void main(String[] args) {
        FilmEdgesTest test = new FilmEdgesTest();
        test.aNewObject();
        test.lengthOfTheFilm();
        test.lengthThatACutBinds();
        test.lengthThatACaptionBinds();
        test.outOfRangeComesBeforeRefused();
        test.framesAreNumberedFromZero();
        test.aCutIsAFrameOfTheFilm();
        test.aNewShotBeginsWithACut();
        test.shotsAreNumberedFromZero();
        test.atMostTwentyCuts();
        test.aCutThatIsThere();
        test.aCutThatIsNotThere();
        test.cutsLeaveTheRefusal();
        test.theNumbersThatCanBeSet();
        test.noSuchNumberToSet();
        test.whatANumberIs();
        test.framesOnWhichBothTracksShow();
        test.captionsWithProblems();
        test.numbersOfChangesAndInput();
        test.check.end();
    }

    private static Run ofLength(int length) {
        return desk -> desk.film(length);
    }

    private void aNewObject() {
        check.about("Creates a desk for a film of 1000 frames without cuts and captions.");
        int[] due = {15, 3, 2, 5, 5, 16, 1000, 0, 0, 0, 0, 0, 0, 0};
        Desk desk = new Desk();
        for (int what = 0; what < due.length; what++) {
            check.same("number(" + what + ") at first", desk.number(what), due[what]);
        }
        check.same("the last frame is in shot", desk.shot(999), 0);
        check.fails("the frame behind it", IndexOutOfBoundsException.class, () -> desk.shot(1000));
        Run none = nothing -> { };
        check.leaves("undo", IllegalStateException.class, none, Desk::undo);
        check.leaves("restoreSnapshot", IllegalStateException.class, none, Desk::restoreSnapshot);
        check.leaves("faultPosition", NoSuchElementException.class, none, Desk::faultPosition);
        check.leaves("refusal(true)", NoSuchElementException.class, none, made -> made.refusal(true));
        check.leaves("refusal(false)", NoSuchElementException.class, none, made -> made.refusal(false));
    }

    private void lengthOfTheFilm() {
        check.about("The film has a length of 100 to 9999 frames, at first 1000");
        Desk desk = new Desk();
        int previous = 1000;
        for (int length : new int[] {100, 101, 100, 9998, 9999, 1000, 999}) {
            check.same("film(" + length + ")", desk.film(length), previous);
            check.same("the length", desk.number(6), length);
            previous = length;
        }
        for (int length : new int[] {99, 98, 0, -1, 10000, 10001}) {
            check.leaves("film(" + length + ")", IllegalArgumentException.class, FED, made -> made.film(length));
        }
        for (int length : EXTREMES) {
            check.leaves("film(" + length + ")", IllegalArgumentException.class, FED, made -> made.film(length));
        }
        check.fails("out of range is no refusal", NoSuchElementException.class,
                () -> Run.failing(made -> made.film(99)).made().refusal(true));
    }

    private void lengthThatACutBinds() {
        check.about("refused, as a caption or a cut would not be in the film");
        for (int length : new int[] {101, 500, 999}) {
            Run cut = Desks.texts("c3;c" + (length - 1));
            check.same("film(" + (length + 1) + ")", cut.made().film(length + 1), 1000);
            check.same("film(" + length + ")", cut.made().film(length), 1000);
            check.refuses("film(" + (length - 1) + ")", 1, cut, desk -> desk.film(length - 1));
            check.refuses("film(100)", 1, cut, desk -> desk.film(100));
            check.same("film(100) without the cut", cut.then(desk -> desk.cut(length - 1, false)).made().film(100), 1000);
        }
        check.same("film(100) with a cut at 99", Desks.reading("c99").film(100), 1000);
        check.refuses("film(100) with a cut at 100", 1, Desks.texts("c100"), desk -> desk.film(100));
    }

    private void lengthThatACaptionBinds() {
        check.about("refused, as a caption or a cut would not be in the film");
        for (String track : new String[] {"a", "b"}) {
            for (int end : new int[] {101, 500, 1000}) {
                Run caption = Desks.texts(track + ".1-2:y;" + track + ".5-" + end + ":x");
                check.same("film(" + (end + 1) + ")", caption.made().film(end + 1), 1000);
                check.same("film(" + end + ")", caption.made().film(end), 1000);
                check.refuses("film(" + (end - 1) + ")", 1, caption, desk -> desk.film(end - 1));
            }
        }
        Run both = Desks.texts("a.5-300:x;b.5-200:x");
        check.refuses("film(299)", 1, both, desk -> desk.film(299));
        check.same("film(300)", both.made().film(300), 1000);
        check.refuses("film(419) of a busy desk", 1, FED, desk -> desk.film(419));
        check.same("film(420) of a busy desk", FED.made().film(420), 900);
    }

    private void outOfRangeComesBeforeRefused() {
        check.about("If several exceptions apply, the one that is documented first is thrown.");
        check.leaves("film(99)", IllegalArgumentException.class, FED, desk -> desk.film(99));
        check.refuses("film(100)", 1, FED, desk -> desk.film(100));
    }

    private void framesAreNumberedFromZero() {
        check.about("its frames are numbered from 0");
        for (int length : LENGTHS) {
            Run film = ofLength(length).then(desk -> Desks.add(desk, 1, 0, 0, length, "x"));
            check.leaves("shot(-1)", IndexOutOfBoundsException.class, film, desk -> desk.shot(-1));
            check.leaves("shown(1, -1)", IndexOutOfBoundsException.class, film, desk -> desk.shown(1, -1));
            for (int frame : new int[] {0, 1, length - 2, length - 1}) {
                check.same("shot(" + frame + ")", film.made().shot(frame), 0);
                check.same("shown(1, " + frame + ")", film.made().shown(1, frame), 0);
                check.fails("shown(0, " + frame + ")", NoSuchElementException.class, () -> film.made().shown(0, frame));
            }
            for (int frame : new int[] {length, length + 1}) {
                check.leaves("shot(" + frame + ")", IndexOutOfBoundsException.class, film, desk -> desk.shot(frame));
                check.leaves("shown(0, " + frame + ")", IndexOutOfBoundsException.class, film, desk -> desk.shown(0, frame));
            }
        }
        for (int frame : EXTREMES) {
            check.leaves("shot(" + frame + ")", IndexOutOfBoundsException.class, FED, desk -> desk.shot(frame));
            check.leaves("shown(1, " + frame + ")", IndexOutOfBoundsException.class, FED, desk -> desk.shown(1, frame));
        }
    }

    private void aCutIsAFrameOfTheFilm() {
        check.about("A cut is a frame from 1 to the length minus 1");
        for (int length : LENGTHS) {
            Run film = ofLength(length).then(desk -> desk.cut(length / 2, true));
            for (int frame : new int[] {1, 2, length - 2, length - 1}) {
                check.same("cut(" + frame + ", true)", film.made().cut(frame, true), 2);
                check.same("cut(" + frame + ", false)", film.made().cut(frame, false), 1);
            }
            for (int frame : new int[] {-1, 0, length, length + 1}) {
                check.leaves("cut(" + frame + ", true)", IndexOutOfBoundsException.class, film, desk -> desk.cut(frame, true));
                check.leaves("cut(" + frame + ", false)", IndexOutOfBoundsException.class, film, desk -> desk.cut(frame, false));
            }
        }
        for (int frame : EXTREMES) {
            check.leaves("cut(" + frame + ", true)", IndexOutOfBoundsException.class, FED, desk -> desk.cut(frame, true));
            check.leaves("cut(" + frame + ", false)", IndexOutOfBoundsException.class, FED, desk -> desk.cut(frame, false));
        }
    }

    private void aNewShotBeginsWithACut() {
        check.about("with which a new shot begins");
        for (int cut : new int[] {1, 2, 500, 998, 999}) {
            Desk desk = Desks.reading("c" + cut);
            check.same("shot(0)", desk.shot(0), 0);
            check.same("the frame before " + cut, desk.shot(cut - 1), 0);
            check.same("the frame " + cut, desk.shot(cut), 1);
            check.same("the last frame", desk.shot(999), 1);
        }
        Desk near = Desks.reading("c11;c9;c10");
        int[] shots = {0, 1, 2, 3, 3};
        for (int frame = 8; frame <= 12; frame++) {
            check.same("shot(" + frame + ")", near.shot(frame), shots[frame - 8]);
        }
    }

    private static Run cuts(int count) {
        return desk -> {
            for (int i = 0; i < count; i++) {
                desk.cut(10 + i * 7 % 20 * 3, true);
            }
        };
    }

    private void shotsAreNumberedFromZero() {
        check.about("Shots are numbered from 0.");
        Desk desk = cuts(20).made();
        for (int shot = 0; shot <= 20; shot++) {
            check.same("the first frame of shot " + shot, desk.shot(shot == 0 ? 0 : 7 + shot * 3), shot);
            check.same("the last frame of shot " + shot, desk.shot(shot == 20 ? 999 : 9 + shot * 3), shot);
        }
    }

    private void atMostTwentyCuts() {
        check.about("there are at most 20 cuts, at first none");
        Desk desk = new Desk();
        check.same("the first one", desk.cut(500, true), 1);
        check.same("the second one", desk.cut(499, true), 2);
        check.same("the 19th", cuts(18).made().cut(999, true), 19);
        check.same("the 20th", cuts(19).made().cut(999, true), 20);
        for (int frame : new int[] {1, 9, 11, 66, 68, 999}) {
            check.leaves("the 21st at " + frame, IllegalStateException.class, cuts(20), made -> made.cut(frame, true));
        }
        Run fullAndBusy = BUSY.then(made -> {
            for (int frame = 500; made.number(7) < 20; frame += 2) {
                made.cut(frame, true);
            }
        });
        check.leaves("the 21st", IllegalStateException.class, fullAndBusy, made -> made.cut(501, true));
        check.same("one away", fullAndBusy.made().cut(500, false), 19);
        check.same("and another one", fullAndBusy.then(made -> made.cut(500, false)).made().cut(501, true), 20);
        check.about("If several exceptions apply, the one that is documented first is thrown.");
        check.leaves("no such frame", IndexOutOfBoundsException.class, cuts(20), made -> made.cut(1000, true));
        check.leaves("no such frame", IndexOutOfBoundsException.class, cuts(20), made -> made.cut(0, true));
    }

    private void aCutThatIsThere() {
        check.about("A cut that is there can be made again, however many there are.");
        for (int count : new int[] {1, 2, 19, 20}) {
            for (int there = 0; there < count; there++) {
                int frame = 10 + there * 7 % 20 * 3;
                Run again = cuts(count).then(desk -> desk.cut(frame, true));
                check.same("again, of " + count, cuts(count).made().cut(frame, true), count);
                check.sameText("the film", Whole.film(again), Whole.film(cuts(count)));
            }
        }
        check.same("is a change", cuts(1).then(cuts(1)).made().number(12), 2);
    }

    private void aCutThatIsNotThere() {
        check.about("Makes a cut, or takes it away.");
        check.same("of none", new Desk().cut(10, false), 0);
        for (int count : new int[] {1, 2, 19, 20}) {
            for (int frame : new int[] {1, 9, 11, 999}) {
                Run away = cuts(count).then(desk -> desk.cut(frame, false));
                check.same("one that is not there, of " + count, cuts(count).made().cut(frame, false), count);
                check.sameText("the film", Whole.film(away), Whole.film(cuts(count)));
            }
            for (int there = 0; there < count; there++) {
                int frame = 10 + there * 7 % 20 * 3;
                Run away = cuts(count).then(desk -> desk.cut(frame, false));
                check.same("one of " + count, away.made().number(7), count - 1);
                check.same("its shot", away.made().shot(frame), away.made().shot(frame - 1));
            }
        }
    }

    private void cutsLeaveTheRefusal() {
        check.about("A call that makes or takes a cut [...] leaves the refusal as it is.");
        for (int frame : new int[] {0, 5, 300, 899, 900}) {
            for (boolean isCut : new boolean[] {true, false}) {
                Desk desk = BUSY.then(Run.failing(made -> made.cut(frame, isCut))).made();
                check.same("the reason after cut(" + frame + ", " + isCut + ")", desk.refusal(true), 1);
                check.same("the item after cut(" + frame + ", " + isCut + ")", desk.refusal(false), 1);
            }
        }
        Run full = cuts(20).then(Run.failing(desk -> desk.cut(999, true)));
        check.fails("none after the 21st", NoSuchElementException.class, () -> full.made().refusal(true));
        Run wrong = Run.failing(desk -> desk.cut(0, true)).then(Run.failing(desk -> desk.cut(1000, false)));
        check.fails("none after no such frame", NoSuchElementException.class, () -> wrong.made().refusal(false));
    }

    private void theNumbersThatCanBeSet() {
        String[] sentences = {"The speed is 5 to 30 characters for each second, at first 15.",
            "the zone, which is 0 to 12, at first 3", "the least gap, which is 0 to 9, at first 2",
            "the gap for merging, which is 0 to 25, at first 5", "The tolerance is 0 to 25, at first 5.",
            "the greatest width, which is 5 to 24, at first 16"};
        int[] from = {5, 0, 0, 0, 0, 5};
        int[] to = {30, 12, 9, 25, 25, 24};
        int[] atFirst = {15, 3, 2, 5, 5, 16};
        for (int i = 0; i < sentences.length; i++) {
            int what = i;
            check.about(sentences[what]);
            check.same("at first", new Desk().number(what), atFirst[what]);
            int previous = atFirst[what];
            Desk desk = new Desk();
            for (int value : new int[] {from[what], from[what] + 1, to[what] - 1, to[what], atFirst[what]}) {
                check.same("set to " + value, desk.set(what, value), previous);
                previous = value;
                for (int other = 0; other < sentences.length; other++) {
                    check.same("number(" + other + ")", desk.number(other), other == what ? value : atFirst[other]);
                }
            }
            for (int value : new int[] {from[what] - 2, from[what] - 1, to[what] + 1, to[what] + 2,
                Integer.MIN_VALUE, Integer.MAX_VALUE}) {
                check.leaves("set to " + value, IllegalArgumentException.class, FED, made -> made.set(what, value));
            }
        }
    }

    private void noSuchNumberToSet() {
        check.about("Throws IllegalArgumentException if what or the number is out of range");
        for (int what : new int[] {-1, 6, 7, 8, 13, Integer.MIN_VALUE, -2, Integer.MAX_VALUE}) {
            for (int value : new int[] {0, 5, 9, 500}) {
                check.leaves("set(" + what + ", " + value + ")", IllegalArgumentException.class, FED, desk -> desk.set(what, value));
            }
        }
        check.same("set(0, 5)", new Desk().set(0, 5), 15);
        check.same("set(5, 5)", new Desk().set(5, 5), 16);
    }

    private void whatANumberIs() {
        check.about("what: 0 to 5 as for set; 6 the length; [...] 13 the characters of the input");
        int[] due = {14, 3, 2, 5, 6, 7, 900, 2, 3, 3, 34 + 10 + 7, 2, 8, 3};
        Desk desk = FED.made();
        for (int what = 0; what < due.length; what++) {
            check.same("number(" + what + ")", desk.number(what), due[what]);
        }
        for (int what : new int[] {-1, 14, 15, -2, Integer.MIN_VALUE, Integer.MAX_VALUE}) {
            check.leaves("number(" + what + ")", IllegalArgumentException.class, FED, made -> made.number(what));
        }
    }

    private void framesOnWhichBothTracksShow() {
        check.about("10 the frames on which both tracks show captions");
        String[] texts = {"a.10-20:x", "a.10-20:x;b.20-30:y", "a.10-20:x;b.19-30:y", "a.10-20:x;b.5-10:y", "a.10-20:x;b.5-11:y",
            "a.10-20:x;b.10-20:y", "a.10-20:x;b.9-21:y", "a.10-20:x;b.12-13:y;b.13-14:z", "a.0-9:x;a.9-20:y;b.5-15:y",
            "a.0-1000:x;b.0-1000:y", "a.0-1000:x;b.999-1000:y"};
        int[] due = {0, 0, 1, 0, 1, 10, 10, 2, 10, 1000, 1};
        for (int i = 0; i < texts.length; i++) {
            check.same(texts[i], Desks.reading(texts[i]).number(10), due[i]);
        }
    }

    private void captionsWithProblems() {
        check.about("11 the captions of both tracks with problems");
        String[] texts = {"u5", "a!10-20:x", "b!10-20:x", "a.10-20:x", "b.10-20:x", "a.10-20:x;b.10-20:x", "a.10-20:x;b.16-20:x",
            "a!10-11:x;b!10-11:xx", "c21;a!10-20:x;b!10-21:y", "c20;a!10-20:x;a!21-30:y;b!19-31:z"};
        int[] due = {0, 0, 0, 1, 1, 0, 2, 1, 1, 2};
        for (int i = 0; i < texts.length; i++) {
            check.same(texts[i], Desks.reading(texts[i]).number(11), due[i]);
        }
    }

    private void numbersOfChangesAndInput() {
        check.about("12 the changes that can be undone; 13 the characters of the input");
        Desk desk = new Desk();
        for (int changes = 1; changes <= 10; changes++) {
            desk.set(0, 5 + changes);
            check.same("after " + changes + " changes", desk.number(12), Math.min(changes, 8));
        }
        for (int signs = 1; signs <= 60; signs++) {
            desk.feed('x');
            check.same("after " + signs + " characters", desk.number(13), signs);
        }
        check.fails("the 61st", IllegalStateException.class, () -> desk.feed('x'));
        check.same("after the 61st", desk.number(13), 60);
        check.fails("read", IllegalArgumentException.class, desk::read);
        check.same("after read", desk.number(13), 0);
        check.same("the changes", desk.number(12), 8);
    }
}
