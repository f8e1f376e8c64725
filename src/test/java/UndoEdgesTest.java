import java.util.NoSuchElementException;

/** The boundary cases of undo, snapshots and exceptions: promises 25 to 27, sentence by sentence. */
final class UndoEdgesTest {
    private static final Run NEW = desk -> { };
    private static final Run BUSY = Desks::busy;
    private static final Run FED = BUSY.then(desk -> Desks.feed(desk, "q_r"));

    private final Check check = new Check("UndoEdgesTest");

    public static void main(String[] args) {
        UndoEdgesTest test = new UndoEdgesTest();
        test.eachChange();
        test.changesWithoutADifference();
        test.whatIsNoChange();
        test.failedCallsAreNoChange();
        test.theLatestEight();
        test.forgottenStaysForgotten();
        test.undoThenOtherChanges();
        test.nothingToUndo();
        test.undoLeavesTheRest();
        test.saveTellsTheCaptions();
        test.saveIsNoChange();
        test.saveInPlaceOfAnEarlierOne();
        test.noSnapshot();
        test.restoreBringsAllBack();
        test.restoreKeepsTheSnapshot();
        test.nothingCanBeUndoneThen();
        test.restoreLeavesTheRest();
        test.undoDoesNotReachTheSnapshot();
        test.fiveHundredAndTwelveCalls();
        test.objectsAreApart();
        test.check.end();
    }

    private void sameFilm(String what, Run got, Run due) {
        check.sameText(what, Whole.film(got), Whole.film(due));
    }

    private static final Run[] CHANGES = {desk -> desk.film(950), desk -> desk.set(3, 6), desk -> desk.cut(17, true),
        desk -> desk.cut(120, false), desk -> Desks.add(desk, 0, 1, 0, 9, "n"), desk -> desk.remove(1, 1),
        desk -> desk.move(0, 0, 90, 141), desk -> desk.split(1, 2, 4), desk -> desk.merge(0, 1), desk -> desk.snap(0, 0),
        desk -> desk.fit(0, 0), desk -> desk.retime(-1, 0, 3, 100, 103), desk -> Desks.read(desk, "c8;b!0-5:t")};

    /** Busy, with two cuts at which the first caption can snap, and too little time for it. */
    private static final Run READY = BUSY.then(Desks.texts("c101;c138")).then(desk -> desk.set(0, 5)).then(desk -> desk.move(0, 0, 103, 113));

    private void eachChange() {
        check.about("The changes are the successful calls of film, set, cut, add, remove, move, split, merge, snap, fit, retime and read");
        for (int i = 0; i < CHANGES.length; i++) {
            Run changed = READY.then(CHANGES[i]);
            check.isTrue("change " + i + " makes a difference", !Whole.film(changed).equals(Whole.film(READY)));
            sameFilm("after undo of change " + i, changed.then(Desk::undo), READY);
            Run restored = BUSY.then(Desk::restoreSnapshot).then(desk -> desk.film(900)).then(desk -> desk.move(0, 0, 103, 113))
                    .then(Desks.texts("b*141-170:i;b.400-420:long_text;c101"))
                    .then(Desks.texts("a!150-160:d|e;a!163-170:f")).then(desk -> desk.set(0, 5));
            check.same("change " + i + " counts", restored.then(CHANGES[i]).made().number(12), 6);
            check.same("undo of change " + i, restored.then(CHANGES[i]).made().undo(), 5);
            sameFilm("then", restored.then(CHANGES[i]).then(Desk::undo), restored);
        }
    }

    private void changesWithoutADifference() {
        check.about("also if nothing is different then");
        Run few = Desks.texts("a.100-200:x;a.200-210:y;c100;c200").then(desk -> desk.set(4, 6));
        Run[] calls = {desk -> desk.film(1000), desk -> desk.set(0, 15), desk -> desk.set(4, 6), desk -> desk.cut(100, true),
            desk -> desk.cut(101, false), desk -> desk.move(0, 0, 100, 200), desk -> desk.snap(0, 0), desk -> desk.fit(0, 0),
            desk -> desk.retime(-1, 0, 0, 1, 1), desk -> desk.retime(1, 0, 1, 1, 2), Desks.texts("u5"), Desks.texts("c100;u101")};
        for (int i = 0; i < calls.length; i++) {
            Run changed = few.then(calls[i]);
            sameFilm("call " + i + " makes no difference", changed, few);
            check.same("call " + i + " is a change", changed.made().number(12), 3);
            check.same("its undo", changed.made().undo(), 2);
            sameFilm("its undo alone", changed.then(Desk::undo), few);
            check.same("the one before it, undone", changed.then(Desk::undo).then(Desk::undo).made().number(4), 5);
        }
    }

    private void whatIsNoChange() {
        check.about("The changes are the successful calls of film, set, cut, add, remove, move, split, merge, snap, fit, retime and read");
        Run one = Desks.texts("a.100-200:x").then(Run.failing(Desks.texts("c0")));
        Run[] calls = {desk -> desk.feed('x'), Desk::saveSnapshot, desk -> desk.number(0), desk -> desk.shot(0),
            desk -> desk.caption(0, 0, 5), desk -> desk.letter(0, 0, 0), desk -> desk.shown(0, 100), desk -> desk.track(0, 0),
            desk -> desk.fastest(0), desk -> desk.speed(0), desk -> desk.refusal(true)};
        for (int i = 0; i < calls.length; i++) {
            check.same("changes behind call " + i, one.then(calls[i]).made().number(12), 1);
            check.same("undo behind call " + i, one.then(calls[i]).made().undo(), 0);
            check.same("captions then", one.then(calls[i]).then(Desk::undo).made().number(8), 0);
        }
    }

    private void failedCallsAreNoChange() {
        check.about("A method that throws an exception leaves the state unchanged unless its documentation says otherwise.");
        check.leaves("film", IllegalArgumentException.class, FED, desk -> desk.film(10000));
        check.refuses("film", 1, FED, desk -> desk.film(300));
        check.leaves("set", IllegalArgumentException.class, FED, desk -> desk.set(1, 13));
        check.leaves("cut", IndexOutOfBoundsException.class, FED, desk -> desk.cut(900, false));
        check.leaves("remove", IndexOutOfBoundsException.class, FED, desk -> desk.remove(1, 3));
        check.leaves("move", IndexOutOfBoundsException.class, FED, desk -> desk.move(1, 3, 0, 1));
        check.refuses("move", 3, FED, desk -> desk.move(1, 2, 102, 104));
        check.leaves("split", IndexOutOfBoundsException.class, FED, desk -> desk.split(0, 0, 4));
        check.refuses("split", 4, FED, desk -> desk.split(0, 0, 1));
        check.leaves("merge", IndexOutOfBoundsException.class, FED, desk -> desk.merge(0, -1));
        check.refuses("merge", 6, FED, desk -> desk.merge(0, 0));
        check.refuses("merge of the last one", 5, FED, desk -> desk.merge(0, 2));
        check.leaves("snap", IndexOutOfBoundsException.class, FED, desk -> desk.snap(0, 3));
        check.leaves("fit", IndexOutOfBoundsException.class, FED, desk -> desk.fit(0, 3));
        check.leaves("retime", IllegalArgumentException.class, FED, desk -> desk.retime(0, 0, 0, 1, -1));
        check.refuses("retime", 1, FED, desk -> desk.retime(-1, 100, 0, 101, 10));
        check.leaves("letter", NoSuchElementException.class, FED, desk -> desk.letter(0, 0, 4));
        check.leaves("shown", NoSuchElementException.class, FED, desk -> desk.shown(0, 0));
        check.leaves("fastest", IndexOutOfBoundsException.class, FED, desk -> desk.fastest(-1));
        check.leaves("speed", IndexOutOfBoundsException.class, FED, desk -> desk.speed(-1));
        check.leavesEmpty("add", IllegalArgumentException.class, BUSY, "x", desk -> desk.add(0, 3, 0, 1));
        check.refusesEmpty("add", 4, 0, BUSY, "X", desk -> desk.add(0, 0, 0, 1));
        check.refusesEmpty("read", 1, 0, BUSY, "c900", Desk::read);
        check.faulty(2, BUSY, "c9!");
    }

    /** So many changes of the speed, to 6, 7 .. */
    private static Run speeds(int count) {
        return desk -> {
            for (int i = 1; i <= count; i++) {
                desk.set(0, 5 + i);
            }
        };
    }

    private void theLatestEight() {
        check.about("The latest 8 can be undone");
        for (int count : new int[] {1, 2, 7, 8, 9, 10, 16, 17, 18, 25}) {
            Run run = speeds(count);
            int can = Math.min(8, count);
            check.same("changes after " + count, run.made().number(12), can);
            for (int undone = 1; undone <= can; undone++) {
                check.same("undo " + undone + " of " + count, run.made().undo(), can - undone);
                run = run.then(Desk::undo);
                check.same("the changes then", run.made().number(12), can - undone);
                check.same("the speed then", run.made().number(0), count == undone ? 15 : 5 + count - undone);
            }
            check.leaves("one more of " + count, IllegalStateException.class, run, Desk::undo);
        }
    }

    private void forgottenStaysForgotten() {
        check.about("what was forgotten stays forgotten");
        Run run = speeds(10);
        for (int undone = 1; undone <= 8; undone++) {
            run = run.then(Desk::undo);
            for (int again = 1; again <= 2; again++) {
                Run then = run.then(speeds(again));
                check.same(undone + " undone, " + again + " made", then.made().number(12), Math.min(8, 8 - undone + again));
            }
        }
        check.same("the speed that was kept", run.made().number(0), 7);
        check.leaves("the ninth", IllegalStateException.class, run, Desk::undo);
        Run eight = run.then(speeds(8));
        check.same("8 more", eight.made().number(12), 8);
        for (int undone = 1; undone <= 8; undone++) {
            eight = eight.then(Desk::undo);
        }
        check.same("all undone", eight.made().number(0), 7);
        check.leaves("the ninth", IllegalStateException.class, eight, Desk::undo);
    }

    private void undoThenOtherChanges() {
        check.about("Undoes the latest change that can be undone.");
        Run run = speeds(3).then(Desk::undo).then(desk -> desk.set(1, 7)).then(Desk::undo).then(Desk::undo);
        check.same("the speed", run.made().number(0), 6);
        check.same("the zone", run.made().number(1), 3);
        check.same("the changes", run.made().number(12), 1);
        Run round = NEW;
        for (int i = 0; i < 30; i++) {
            int speed = 5 + i % 26;
            round = round.then(desk -> desk.set(0, speed)).then(desk -> desk.cut(10 + speed, true)).then(Desk::undo);
        }
        check.same("no cuts", round.made().number(7), 0);
        check.same("the changes, of 8 the latest is undone", round.made().number(12), 7);
        check.same("the speed", round.made().number(0), 8);
        check.same("the speed before", round.then(Desk::undo).made().number(0), 7);
    }

    private void nothingToUndo() {
        check.about("Throws IllegalStateException if there is none");
        check.leaves("of a new object", IllegalStateException.class, NEW, Desk::undo);
        check.leaves("with an input", IllegalStateException.class, desk -> desk.feed('x'), Desk::undo);
        check.leaves("with a snapshot", IllegalStateException.class, Desk::saveSnapshot, Desk::undo);
        check.leaves("after failed calls", IllegalStateException.class, Run.failing(Desks.texts("c0")), Desk::undo);
        check.leaves("after all are undone", IllegalStateException.class, speeds(1).then(Desk::undo), Desk::undo);
        check.leaves("after restoreSnapshot", IllegalStateException.class, FED.then(Desk::restoreSnapshot), Desk::undo);
        check.same("the last one", speeds(1).made().undo(), 0);
    }

    private void undoLeavesTheRest() {
        check.about("The input, the fault position and the refusal are neither undone nor saved, and stay.");
        Run run = Desks.texts("c5").then(Run.failing(Desks.texts("c6;c0"))).then(Run.failing(Desks.texts("c7;!")))
                .then(desk -> Desks.feed(desk, "c8;c9")).then(desk -> desk.set(0, 5)).then(Desk::undo).then(Desk::undo);
        Desk desk = run.made();
        check.same("the input", desk.number(13), 5);
        check.same("the fault", desk.faultPosition(), 3);
        check.same("the reason", desk.refusal(true), 1);
        check.same("the item", desk.refusal(false), 1);
        check.same("the input can be read", desk.read(), 2);
        check.same("its cuts", desk.number(7), 2);
        Run added = NEW.then(made -> Desks.add(made, 0, 0, 0, 1, "abc")).then(Desk::undo);
        check.same("what add has taken does not come back", added.made().number(13), 0);
        check.same("nor what read has taken", Desks.texts("c5").then(Desk::undo).made().number(13), 0);
    }

    private void saveTellsTheCaptions() {
        check.about("Returns the number of captions of both tracks.");
        check.same("none", new Desk().saveSnapshot(), 0);
        check.same("one of track 0", Desks.reading("a.1-2:x").saveSnapshot(), 1);
        check.same("one of track 1", Desks.reading("b.1-2:x").saveSnapshot(), 1);
        check.same("of both", Desks.reading("a.1-2:x;b.1-2:y;b.2-3:z").saveSnapshot(), 3);
        Run full = desk -> {
            for (int i = 0; i < 32; i++) {
                Desks.add(desk, i % 2, 0, i * 3, i * 3 + 1, "x");
            }
        };
        check.same("32", full.made().saveSnapshot(), 32);
        check.same("32 restored", full.then(Desk::saveSnapshot).then(desk -> desk.remove(0, 0)).made().restoreSnapshot(), 32);
        check.same("none restored", NEW.then(Desk::saveSnapshot).then(full).made().restoreSnapshot(), 0);
        sameFilm("32 as they were", full.then(Desk::saveSnapshot).then(desk -> desk.retime(-1, 0, 0, 1, 2)).then(Desk::restoreSnapshot), full);
    }

    private void saveIsNoChange() {
        check.about("Saves the film with its cuts and captions, and the numbers that can be set");
        sameFilm("the film", FED.then(Desk::saveSnapshot), FED);
        check.same("the changes", FED.then(Desk::saveSnapshot).made().number(12), 8);
        check.same("the input", FED.then(Desk::saveSnapshot).made().number(13), 3);
        sameFilm("undone", FED.then(Desk::saveSnapshot).then(Desk::undo), FED.then(Desk::undo));
    }

    private void saveInPlaceOfAnEarlierOne() {
        check.about("in place of an earlier snapshot");
        Run run = speeds(1).then(Desk::saveSnapshot).then(speeds(2)).then(Desk::saveSnapshot).then(speeds(3));
        check.same("the later one", run.then(Desk::restoreSnapshot).made().number(0), 7);
        check.same("the later one again", run.then(Desk::restoreSnapshot).then(speeds(1)).then(Desk::restoreSnapshot).made().number(0), 7);
        check.same("of fewer captions", Desks.texts("a.1-2:x;b.1-2:y;c5").then(Desk::saveSnapshot).then(desk -> desk.remove(0, 0))
                .then(Desk::saveSnapshot).then(Desks.texts("a.5-6:z")).made().restoreSnapshot(), 1);
        Run undone = speeds(1).then(Desk::saveSnapshot).then(Desk::undo);
        check.same("is not undone", undone.then(Desk::restoreSnapshot).made().number(0), 6);
    }

    private void noSnapshot() {
        check.about("Throws IllegalStateException if there is none");
        check.leaves("of a new object", IllegalStateException.class, NEW, Desk::restoreSnapshot);
        check.leaves("with changes", IllegalStateException.class, Desks.texts("a.1-2:x;c5", "u5"), Desk::restoreSnapshot);
        check.same("with one", NEW.then(Desk::saveSnapshot).made().restoreSnapshot(), 0);
    }

    private void restoreBringsAllBack() {
        check.about("Restores the latest snapshot");
        Run saved = desk -> {
            desk.film(777);
            int[] numbers = {7, 8, 9, 10, 11, 12};
            for (int what = 0; what < numbers.length; what++) {
                desk.set(what, numbers[what]);
            }
            Desks.read(desk, "a.10-20:a_b|c;b!30-40:d;b*50-60:e;c5;c776;c300");
        };
        Run other = desk -> {
            desk.remove(0, 0);
            desk.move(1, 0, 600, 700);
            desk.film(9999);
            for (int what = 0; what <= 5; what++) {
                desk.set(what, 6);
            }
            desk.cut(776, false);
            Desks.read(desk, "c9998;u300;a!1-2:zzz;a.3-4:y;b.5-6:x");
        };
        Run run = saved.then(Desk::saveSnapshot).then(other);
        check.same("the captions", run.made().restoreSnapshot(), 3);
        sameFilm("all of it", run.then(Desk::restoreSnapshot), saved);
        sameFilm("all of it again", run.then(Desk::restoreSnapshot).then(Desk::restoreSnapshot), saved);
        sameFilm("a new film", NEW.then(Desk::saveSnapshot).then(saved).then(other).then(Desk::restoreSnapshot), NEW);
    }

    private void restoreKeepsTheSnapshot() {
        check.about("Restores the latest snapshot, which is kept.");
        Run saved = Desks.texts("a.10-20:a_b;c5").then(Desk::saveSnapshot);
        Run[] edits = {desk -> desk.film(500), desk -> desk.set(5, 20), desk -> desk.cut(5, false), desk -> desk.move(0, 0, 1, 2),
            desk -> desk.split(0, 0, 1), desk -> desk.remove(0, 0), desk -> desk.retime(0, 0, 0, 1, 2), desk -> desk.set(0, 5),
            Desks.texts("b.1-2:x;u5")};
        for (int i = 0; i < edits.length; i++) {
            Run twice = saved.then(edits[i]).then(Desk::restoreSnapshot).then(edits[i]);
            check.same("again after edit " + i, twice.made().restoreSnapshot(), 1);
            sameFilm("the film after edit " + i, twice.then(Desk::restoreSnapshot), saved);
        }
    }

    private void nothingCanBeUndoneThen() {
        check.about("Nothing can be undone then.");
        Run run = FED.then(Desk::restoreSnapshot);
        check.same("the changes", run.made().number(12), 0);
        check.leaves("undo", IllegalStateException.class, run, Desk::undo);
        Run one = run.then(desk -> desk.set(0, 5));
        check.same("a change behind it", one.made().number(12), 1);
        check.same("its undo", one.made().undo(), 0);
        sameFilm("then", one.then(Desk::undo), run);
        check.leaves("one more undo", IllegalStateException.class, one.then(Desk::undo), Desk::undo);
        Run nine = run.then(speeds(9));
        check.same("9 changes behind it", nine.made().number(12), 8);
        check.same("also if nothing was different", NEW.then(speeds(2)).then(Desk::saveSnapshot).then(Desk::restoreSnapshot).made().number(12), 0);
    }

    private void restoreLeavesTheRest() {
        check.about("The input, the fault position and the refusal are neither undone nor saved, and stay.");
        Run saved = Run.failing(Desks.texts("x")).then(Run.failing(Desks.texts("c5;c0"))).then(desk -> desk.feed('c')).then(Desk::saveSnapshot);
        Run later = saved.then(Run.failing(Desk::read)).then(Run.failing(desk -> desk.add(0, 0, 5, 5)))
                .then(desk -> Desks.feed(desk, "c7")).then(Desk::restoreSnapshot);
        Desk desk = later.made();
        check.same("the input", desk.number(13), 2);
        check.same("the fault", desk.faultPosition(), 1);
        check.same("the reason", desk.refusal(true), 2);
        check.same("the item", desk.refusal(false), 0);
        check.same("the input can be read", desk.read(), 1);
        check.same("its cut", desk.shot(7), 1);
    }

    private void undoDoesNotReachTheSnapshot() {
        check.about("Saves the film with its cuts and captions, and the numbers that can be set, in place of an earlier snapshot.");
        Run run = speeds(4).then(Desk::saveSnapshot).then(Desk::undo).then(Desk::undo);
        check.same("undo behind it", run.made().number(0), 7);
        check.same("restored", run.then(Desk::restoreSnapshot).made().number(0), 9);
        Run again = run.then(Desk::restoreSnapshot).then(speeds(1)).then(Desk::undo);
        check.same("undo of a change behind it", again.made().number(0), 9);
    }

    private void fiveHundredAndTwelveCalls() {
        check.about("An object is used for at most 512 calls after it has been made");
        Desk desk = new Desk();
        for (int i = 0; i < 504; i++) {
            check.same("call " + i, desk.set(0, 5 + i % 26), i == 0 ? 15 : 5 + (i + 25) % 26);
        }
        for (int left = 7; left >= 0; left--) {
            check.same("undo", desk.undo(), left);
        }
        Desk film = new Desk();
        for (int i = 0; i < 511; i++) {
            check.same("film " + i, film.film(100 + i), i == 0 ? 1000 : 99 + i);
        }
        check.same("the 512th call", film.number(6), 610);
        Desk adding = new Desk();
        for (int i = 0; i < 170; i++) {
            adding.feed('x');
            check.same("add " + i, adding.add(0, i % 3, i, i + 1), 0);
            check.same("remove " + i, adding.remove(0, 0), 0);
        }
        check.same("the changes", adding.number(12), 8);
        check.same("undo", adding.undo(), 7);
    }

    private void objectsAreApart() {
        check.about("Creates a desk");
        Desk one = Desks.reading("a.1-2:x;c5");
        Desk other = FED.made();
        check.same("captions of the one", one.number(8), 1);
        check.same("captions of the other", other.number(8), 3);
        one.remove(0, 0);
        one.film(5000);
        Desks.feed(one, "xyz");
        check.same("captions of the other", other.number(8), 3);
        check.same("length of the other", other.number(6), 900);
        check.same("input of the other", other.number(13), 3);
        check.same("a third one", new Desk().number(8), 0);
    }
}
