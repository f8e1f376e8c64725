/** The boundary cases of captions and their texts: promises 7 to 10, sentence by sentence. */
final class CaptionEdgesTest {
    private static final Run BUSY = Desks::busy;
    private static final Run FED = BUSY.then(desk -> Desks.feed(desk, "q_r"));
    private static final Run NEW = desk -> { };
    private static final String LONGEST = "abcdefghijklmnopqrstuvwx";
    private static final int[] EXTREMES = {Integer.MIN_VALUE, Integer.MIN_VALUE + 1, -2, Integer.MAX_VALUE - 1, Integer.MAX_VALUE};

    private final Check check = new Check("CaptionEdgesTest");

    public static void main(String[] args) {
        CaptionEdgesTest test = new CaptionEdgesTest();
        test.theInputHoldsSixtyCharacters();
        test.theInputTakesAnyCharacter();
        test.thereAreTwoTracks();
        test.thereIsNoSuchCaption();
        test.atMostSixteenCaptions();
        test.aTextOfItemsFillsATrack();
        test.kinds();
        test.framesOfAnAddedCaption();
        test.framesOfAMovedCaption();
        test.framesOfTheFilmsLength();
        test.addedCaptionsShareNoFrames();
        test.movedCaptionsShareNoFrames();
        test.orderOfTime();
        test.lengthOfATextIsBound();
        test.charactersOfAText();
        test.oneNewLine();
        test.newLinesNotAtTheEnds();
        test.loads();
        test.lines();
        test.theInputIsEmptyAfterAdd();
        test.reasonsOfAddInTheirOrder();
        test.exceptionsOfAddInTheirOrder();
        test.addingToNoTrackLeavesTheRefusal();
        test.removeTellsWhatRemains();
        test.moveTellsTheNumberThen();
        test.check.end();
    }

    private static Run feeding(String text) {
        return desk -> Desks.feed(desk, text);
    }

    /** Adds a caption with a text of one letter. */
    private static Run adding(int track, int kind, int first, int end) {
        return feeding("x").then(desk -> desk.add(track, kind, first, end));
    }

    private void theInputHoldsSixtyCharacters() {
        check.about("The input holds at most 60 characters.");
        Run almost = BUSY.then(feeding("x".repeat(59)));
        Run full = BUSY.then(feeding("x".repeat(60)));
        check.same("the first one", NEW.made().feed('x'), 1);
        check.same("the second one", NEW.then(feeding("y")).made().feed('x'), 2);
        check.same("the 59th", BUSY.then(feeding("x".repeat(58))).made().feed('x'), 59);
        check.same("the 60th", almost.made().feed('x'), 60);
        for (char sign : new char[] {'x', 0, '|', 65535}) {
            check.leaves("the 61st", IllegalStateException.class, full, desk -> desk.feed(sign));
        }
        check.fails("it is no refusal", java.util.NoSuchElementException.class, () ->
                NEW.then(feeding("x".repeat(60))).then(Run.failing(desk -> desk.feed('x'))).made().refusal(true));
        check.about("Returns the length of the input.");
        check.same("after read", full.then(Run.failing(Desk::read)).made().feed('x'), 1);
        check.same("after add", full.then(Run.failing(desk -> desk.add(0, 0, 0, 1))).made().feed('x'), 1);
        check.same("after undo, which leaves the input", full.then(Desk::undo).made().number(13), 60);
    }

    private void theInputTakesAnyCharacter() {
        check.about("Appends a character to the input.");
        for (int sign : new int[] {0, 1, ' ', 'A', 127, 128, 255, 256, 0x161, 0xd800, 0xdfff, 65534, 65535}) {
            check.same("feed " + sign, NEW.made().feed((char) sign), 1);
            check.faulty(2, BUSY, "c5" + (char) sign);
        }
        check.same("is no change", feeding("abc").made().number(12), 0);
    }

    private void thereAreTwoTracks() {
        check.about("There are two tracks, 0 and 1");
        for (int track : new int[] {-1, 2, 3, Integer.MIN_VALUE, Integer.MAX_VALUE}) {
            noTrack("remove", track, desk -> desk.remove(track, 0));
            noTrack("move", track, desk -> desk.move(track, 0, 500, 510));
            noTrack("split", track, desk -> desk.split(track, 0, 2));
            noTrack("merge", track, desk -> desk.merge(track, 0));
            noTrack("snap", track, desk -> desk.snap(track, 0));
            noTrack("fit", track, desk -> desk.fit(track, 0));
            noTrack("caption", track, desk -> desk.caption(track, 0, 0));
            noTrack("letter", track, desk -> desk.letter(track, 0, 0));
            noTrack("shown", track, desk -> desk.shown(track, 110));
            noTrack("track", track, desk -> desk.track(track, 0));
            noTrack("fastest", track, desk -> desk.fastest(track));
            noTrack("speed", track, desk -> desk.speed(track));
            check.leavesEmpty("add to " + track, IndexOutOfBoundsException.class, BUSY, "x", desk -> desk.add(track, 0, 0, 1));
            if (track != -1) {
                noTrack("retime", track, desk -> desk.retime(track, 0, 0, 100, 101));
            }
        }
        for (int track = 0; track <= 1; track++) {
            check.same("add to " + track, BUSY.then(feeding("x")).made().add(track, 0, 0, 1), 0);
            check.same("remove of " + track, BUSY.made().remove(track, 0), 2);
            check.same("first frame in " + track, BUSY.made().caption(track, 0, 0), track == 0 ? 100 : 103);
        }
    }

    private void noTrack(String what, int track, Run call) {
        check.leaves(what + " of track " + track, IndexOutOfBoundsException.class, FED, call);
    }

    private void thereIsNoSuchCaption() {
        check.about("Throws IndexOutOfBoundsException if there is no such track or caption");
        noSuchCaptions(FED, 0, -1, 3, 4, 15, 16);
        noSuchCaptions(FED, 1, -1, 3, Integer.MIN_VALUE, Integer.MAX_VALUE);
        noSuchCaptions(NEW, 0, -1, 0, 1);
        noSuchCaptions(NEW, 1, -1, 0, 1);
        noSuchCaptions(full(0), 0, -1, 16, 17);
        noSuchCaptions(full(0), 1, 0, 15);
        for (int caption : new int[] {0, 1, 2}) {
            check.same("remove " + caption, FED.made().remove(0, caption), 2);
        }
        check.same("the last one of a full track", full(1).made().caption(1, 15, 0), 150);
    }

    private void noSuchCaptions(Run before, int track, int... captions) {
        for (int caption : captions) {
            noCaption("remove", caption, before, desk -> desk.remove(track, caption));
            noCaption("move", caption, before, desk -> desk.move(track, caption, 500, 510));
            noCaption("split", caption, before, desk -> desk.split(track, caption, 2));
            noCaption("merge", caption, before, desk -> desk.merge(track, caption));
            noCaption("snap", caption, before, desk -> desk.snap(track, caption));
            noCaption("fit", caption, before, desk -> desk.fit(track, caption));
            noCaption("caption", caption, before, desk -> desk.caption(track, caption, 0));
            noCaption("letter", caption, before, desk -> desk.letter(track, caption, 0));
        }
    }

    private void noCaption(String what, int caption, Run before, Run call) {
        check.leaves(what + " of caption " + caption, IndexOutOfBoundsException.class, before, call);
    }

    /** As many captions, at the frames 0 to 4, 10 to 14 .. in an order that is not that of time. */
    private static Run captions(int track, int count) {
        return desk -> {
            for (int i = 0; i < count; i++) {
                int first = i * 11 % count * 10;
                Desks.add(desk, track, 0, first, first + 5, "a_b");
            }
        };
    }

    private static Run full(int track) {
        return captions(track, 16);
    }

    private void atMostSixteenCaptions() {
        check.about("There are two tracks, [...] with at most 16 captions each.");
        for (int track = 0; track <= 1; track++) {
            int where = track;
            check.same("the 15th", captions(track, 13).then(adding(track, 0, 500, 501)).then(feeding("y")).made()
                    .add(track, 0, 502, 503), 14);
            check.same("the 16th", captions(track, 15).then(feeding("x")).made().add(track, 0, 500, 501), 15);
            for (int first : new int[] {5, 155, 999}) {
                check.refusesEmpty("the 17th at " + first, 8, 0, full(track), "x", desk -> desk.add(where, 0, first, first + 1));
            }
            check.same("in the other track", full(track).then(feeding("x")).made().add(1 - track, 0, 0, 1), 0);
            check.same("both are full", full(track).then(full(1 - track)).made().saveSnapshot(), 32);
            Run room = full(track).then(desk -> desk.remove(where, 0));
            check.same("room again", room.then(feeding("x")).made().add(track, 0, 0, 1), 0);
            check.refuses("a split", 8, full(track), desk -> desk.split(where, 3, 1));
            check.same("a split with room", room.made().split(track, 3, 1), 2);
        }
    }

    private void aTextOfItemsFillsATrack() {
        check.about("There are two tracks, [...] with at most 16 captions each.");
        Run fourteen = captions(1, 14);
        check.same("the 16th", Desks.read(fourteen.made(), "b.500-501:x;b.502-503:y"), 2);
        String three = "b.500-501:x;b.502-503:y;b.504-505:z";
        check.refusesEmpty("the 17th", 8, 2, fourteen, three, Desk::read);
        check.refusesEmpty("the 17th", 8, 0, full(1), "b.500-501:x", Desk::read);
        check.same("of the other track", Desks.read(full(1).made(), "a.500-501:x"), 1);
    }

    private void kinds() {
        check.about("0 speech, 1 sign, 2 song");
        int[] needs = {12, 6, 10};
        for (int kind = 0; kind <= 2; kind++) {
            Desk desk = new Desk();
            check.same("add of the kind " + kind, Desks.add(desk, 0, kind, 0, 20, "abcdefg"), 0);
            check.same("the kind", desk.caption(0, 0, 2), kind);
            check.same("what it needs", desk.caption(0, 0, 4), needs[kind]);
        }
        for (int kind : new int[] {-1, 3, 4, -2, Integer.MIN_VALUE, Integer.MAX_VALUE}) {
            check.leavesEmpty("the kind " + kind, IllegalArgumentException.class, BUSY, "x", desk -> desk.add(0, kind, 0, 1));
        }
    }

    /** First frames, ends and the reasons for which they are refused, 0 for none, in a film of 1000 frames. */
    private static final int[][] PLACES = {{0, 1, 0}, {0, 2, 0}, {1, 2, 0}, {999, 1000, 0}, {998, 1000, 0}, {998, 999, 0},
        {0, 1000, 0}, {1, 999, 0}, {500, 501, 0},
        {-1, 1, 1}, {-1, 0, 1}, {-1, -1, 1}, {-1, 1000, 1}, {-1, 1001, 1}, {0, 1001, 1}, {999, 1001, 1}, {1000, 1001, 1},
        {1001, 1001, 1}, {1002, 1001, 1}, {-1, -2, 1}, {-2, -1, 1},
        {0, 0, 2}, {1, 1, 2}, {1, 0, 2}, {500, 500, 2}, {500, 499, 2}, {999, 999, 2}, {1000, 1000, 2}, {1000, 999, 2},
        {1001, 1000, 2}, {1001, 0, 2}, {0, -1, 2}, {5, -5, 2},
        {Integer.MIN_VALUE, 1, 1}, {0, Integer.MAX_VALUE, 1}, {Integer.MIN_VALUE, Integer.MAX_VALUE, 1},
        {Integer.MIN_VALUE, Integer.MIN_VALUE, 1}, {Integer.MAX_VALUE, Integer.MAX_VALUE, 1},
        {Integer.MAX_VALUE, 1000, 2}, {0, Integer.MIN_VALUE, 2}, {Integer.MAX_VALUE, Integer.MIN_VALUE, 2}};

    private void framesOfAnAddedCaption() {
        check.about("Its first frame is at least 0 and before its end, which is at most the length.");
        for (int[] place : PLACES) {
            String what = "add(1, 2, " + place[0] + ", " + place[1] + ")";
            if (place[2] == 0) {
                Desk desk = adding(1, 2, place[0], place[1]).made();
                check.same(what + ": first", desk.caption(1, 0, 0), place[0]);
                check.same(what + ": end", desk.caption(1, 0, 1), place[1]);
            } else {
                check.refusesEmpty(what, place[2], 0, NEW, "x", desk -> desk.add(1, 2, place[0], place[1]));
                check.refusesEmpty(what, place[2], 0, BUSY.then(desk -> desk.film(1000)), "x",
                        desk -> desk.add(1, 2, place[0], place[1]));
            }
        }
    }

    private void framesOfAMovedCaption() {
        check.about("Its first frame is at least 0 and before its end, which is at most the length.");
        Run one = Desks.texts("a*400-410:a_b", "b.0-1000:x");
        for (int[] place : PLACES) {
            String what = "move(0, 0, " + place[0] + ", " + place[1] + ")";
            if (place[2] == 0) {
                Desk desk = one.then(made -> made.move(0, 0, place[0], place[1])).made();
                check.sameText(what, Desks.captions(desk, 0), "2/" + place[0] + "-" + place[1] + ":a_b");
            } else {
                check.refuses(what, place[2], one, desk -> desk.move(0, 0, place[0], place[1]));
                check.refuses(what, place[2], FED.then(desk -> desk.film(1000)), desk -> desk.move(1, 2, place[0], place[1]));
            }
        }
    }

    private void framesOfTheFilmsLength() {
        check.about("Its first frame is at least 0 and before its end, which is at most the length.");
        for (int length : new int[] {100, 101, 9998, 9999}) {
            Run film = desk -> desk.film(length);
            check.same("the whole film", film.then(feeding("x")).made().add(0, 0, 0, length), 0);
            check.refusesEmpty("one frame more", 1, 0, film, "x", desk -> desk.add(0, 0, 0, length + 1));
            Run one = film.then(adding(0, 0, 0, 1));
            check.same("to the last frame", one.made().move(0, 0, length - 1, length), 0);
            check.refuses("behind it", 1, one, desk -> desk.move(0, 0, length, length + 1));
        }
    }

    /** First frames and ends beside a caption from 100 to 199, and 3 if they share frames with it. */
    private static final int[][] NEAR = {{50, 99, 0}, {50, 100, 0}, {99, 100, 0}, {0, 100, 0}, {200, 201, 0}, {200, 300, 0},
        {201, 202, 0}, {200, 1000, 0},
        {50, 101, 3}, {99, 101, 3}, {100, 101, 3}, {100, 200, 3}, {99, 201, 3}, {101, 199, 3}, {150, 151, 3}, {199, 200, 3},
        {199, 201, 3}, {199, 300, 3}, {0, 1000, 3}, {100, 201, 3}, {99, 200, 3}};

    private void addedCaptionsShareNoFrames() {
        check.about("The captions of a track do not share frames");
        Run one = Desks.texts("a.100-200:y");
        Run between = Desks.texts("a.100-200:y", "a!0-10:z;a*900-910:w;b.0-1000:v");
        for (int[] place : NEAR) {
            String what = "add(0, 0, " + place[0] + ", " + place[1] + ")";
            if (place[2] == 0) {
                check.same(what, one.then(feeding("x")).made().add(0, 0, place[0], place[1]), place[0] < 100 ? 0 : 1);
            } else {
                check.refusesEmpty(what, 3, 0, one, "x", desk -> desk.add(0, 0, place[0], place[1]));
                check.refusesEmpty(what, 3, 0, between, "x", desk -> desk.add(0, 0, place[0], place[1]));
            }
            check.same("in the other track", one.then(feeding("x")).made().add(1, 0, place[0], place[1]), 0);
        }
    }

    private void movedCaptionsShareNoFrames() {
        check.about("The captions of a track do not share frames");
        Run before = Desks.texts("a.100-200:y;a.400-410:x");
        Run behind = Desks.texts("a.10-15:x;a.100-200:y", "b.0-1000:v");
        for (int[] place : NEAR) {
            String what = "move to " + place[0] + ", " + place[1];
            if (place[2] == 0) {
                check.same(what, before.made().move(0, 1, place[0], place[1]), place[0] < 100 ? 0 : 1);
                check.same(what, behind.made().move(0, 0, place[0], place[1]), place[0] < 100 ? 0 : 1);
            } else {
                check.refuses(what, 3, before, desk -> desk.move(0, 1, place[0], place[1]));
                check.refuses(what, 3, behind, desk -> desk.move(0, 0, place[0], place[1]));
            }
            check.same("its own frames do not bind", before.made().move(0, 0, place[0], Math.min(place[1], 400)), 0);
        }
        check.refuses("both sides", 3, Desks.texts("a.10-20:x;a.20-30:y;a.30-40:z"), desk -> desk.move(0, 1, 19, 31));
        check.refuses("one side", 3, Desks.texts("a.10-20:x;a.20-30:y;a.30-40:z"), desk -> desk.move(0, 1, 20, 31));
        check.refuses("the other side", 3, Desks.texts("a.10-20:x;a.20-30:y;a.30-40:z"), desk -> desk.move(0, 1, 19, 30));
        check.same("none", Desks.reading("a.10-20:x;a.21-29:y;a.30-40:z").move(0, 1, 20, 30), 1);
    }

    private void orderOfTime() {
        check.about("they are numbered from 0 in the order of time");
        for (int count : new int[] {1, 2, 5, 16}) {
            Desk desk = captions(0, count).made();
            for (int i = 0; i < count; i++) {
                check.same("the first frame of " + i, desk.caption(0, i, 0), i * 10);
            }
            for (int i = 0; i < count; i++) {
                check.same("the caption on " + (i * 10), desk.shown(0, i * 10 + 4), i);
            }
        }
        check.same("the first of all", captions(0, 15).then(feeding("x")).made().add(0, 0, 5, 6), 1);
        check.same("the last of all", captions(0, 15).then(feeding("x")).made().add(0, 0, 145, 146), 15);
        check.same("between", captions(0, 15).then(feeding("x")).made().add(0, 0, 75, 80), 8);
    }

    private void lengthOfATextIsBound() {
        check.about("The text of a caption has 1 to 24 characters");
        for (int size : new int[] {1, 2, 23, 24}) {
            String text = LONGEST.substring(0, size);
            Desk desk = feeding(text).made();
            check.same("add of " + size, desk.add(0, 0, 0, 1), 0);
            check.same("its size", desk.caption(0, 0, 7), size);
            check.sameText("its text", Desks.text(desk, 0, 0), text);
        }
        for (String text : new String[] {"", LONGEST + "y", LONGEST + "yz", "x".repeat(59), "x".repeat(60),
            "abcdefghijkl|nopqrstuvwxy"}) {
            check.refusesEmpty("add of " + text, 4, 0, BUSY, text, desk -> desk.add(0, 0, 0, 1));
        }
        check.same("24 with a new line", feeding("abcdefghijkl|nopqrstuvwx").made().add(0, 0, 0, 1), 0);
    }

    private void charactersOfAText() {
        check.about("small letters from a to z, _ for a space, and | for a new line");
        for (int sign = 0; sign <= 700; sign++) {
            boolean isDue = sign == '_' || sign == '|' || sign >= 97 && sign <= 122;
            oneCharacter((char) sign, isDue);
        }
        for (char sign : new char[] {65535, 65376, 'a' + 65280, 0x4e00 + 'a', 0x8000 + 'a', 0x1000 + '_', 0x100 + '|'}) {
            oneCharacter(sign, false);
        }
    }

    private void oneCharacter(char sign, boolean isDue) {
        String text = "a" + sign + "b";
        if (isDue) {
            Desk desk = feeding(text).made();
            check.same("add of " + text, desk.add(0, 0, 0, 1), 0);
            check.same("its letter", desk.letter(0, 0, 1), sign);
            return;
        }
        for (String each : new String[] {text, sign + "ab", "ab" + sign}) {
            Desk desk = feeding(each).made();
            check.fails("add with " + (int) sign, UnsupportedOperationException.class, () -> desk.add(0, 0, 0, 1));
            check.same("its reason", desk.refusal(true), 4);
        }
    }

    private void oneNewLine() {
        check.about("It contains | at most once");
        for (String text : new String[] {"ab", "a|b", "abc|d", "_|_"}) {
            check.same("add of " + text, feeding(text).made().add(0, 0, 0, 1), 0);
        }
        for (String text : new String[] {"a||b", "a|b|c", "a|b|c|d", "ab|_|c"}) {
            check.refusesEmpty("add of " + text, 4, 0, BUSY, text, desk -> desk.add(0, 0, 0, 1));
        }
    }

    private void newLinesNotAtTheEnds() {
        check.about("and neither begins nor ends with it");
        for (String text : new String[] {"a|b", "_|b", "a|_", "abcdefghijklmnopqrstuv|x", "a|cdefghijklmnopqrstuvwx"}) {
            check.same("add of " + text, feeding(text).made().add(0, 0, 0, 1), 0);
        }
        for (String text : new String[] {"|", "|a", "a|", "|abc", "abc|", "||", "|a|", "abcdefghijklmnopqrstuvw|",
            "|bcdefghijklmnopqrstuvwx"}) {
            check.refusesEmpty("add of " + text, 4, 0, BUSY, text, desk -> desk.add(0, 0, 0, 1));
        }
    }

    private void loads() {
        check.about("Its load is the number of its other characters.");
        String[] texts = {"a", "_", "__", "a_b", "a|b", "_|_", "abc|d", LONGEST, "abcdefghijk|mnopqrstuvwx"};
        int[] due = {1, 1, 2, 3, 2, 2, 4, 24, 23};
        for (int i = 0; i < texts.length; i++) {
            Desk desk = feeding(texts[i]).then(made -> made.add(1, 0, 0, 1)).made();
            check.same("the load of " + texts[i], desk.caption(1, 0, 3), due[i]);
            check.same("the load of the track", desk.track(1, 1), due[i]);
            check.same("the characters of " + texts[i], desk.caption(1, 0, 7), texts[i].length());
        }
    }

    private void lines() {
        check.about("Its lines are the parts before and behind |.");
        String[] texts = {"a", "_", "ab|c", "a|bc", "ab|cd", "a|b", LONGEST, "a|cdefghijklmnopqrstuvwx", "abcdefghijklmnopqrstuv|x"};
        int[] due = {1, 1, 2, 2, 2, 1, 24, 22, 22};
        for (int i = 0; i < texts.length; i++) {
            Desk desk = feeding(texts[i]).then(made -> made.add(0, 0, 0, 1)).made();
            check.same("the longest line of " + texts[i], desk.caption(0, 0, 8), due[i]);
        }
    }

    private void theInputIsEmptyAfterAdd() {
        check.about("The input is empty afterwards, also if an exception is thrown.");
        int[][] calls = {{0, 0, 0, 1}, {2, 0, 0, 1}, {-1, 0, 0, 1}, {0, 3, 0, 1}, {0, -1, 0, 1}, {0, 0, -1, 1}, {0, 0, 1, 1},
            {0, 0, 110, 120}, {0, 0, 899, 901}};
        for (String text : new String[] {"", "a", "|", "abc|def", "x".repeat(60), "c5"}) {
            for (int[] call : calls) {
                Desk desk = BUSY.then(feeding(text)).then(Run.failing(made -> made.add(call[0], call[1], call[2], call[3]))).made();
                check.same("the input behind add of " + text, desk.number(13), 0);
                check.same("the next character", desk.feed('x'), 1);
            }
        }
        Desk full = full(0).then(feeding("x")).then(Run.failing(made -> made.add(0, 0, 500, 501))).made();
        check.same("the input behind the 17th", full.number(13), 0);
    }

    private void reasonsOfAddInTheirOrder() {
        check.about("where several apply, the one with the lowest number counts");
        Run full = full(0);
        refusedAdd(full, 1, "|", 1002, 1001);
        refusedAdd(full, 1, "|", -1, 5);
        refusedAdd(full, 1, "x", -1, -1);
        refusedAdd(full, 2, "|", 2, 2);
        refusedAdd(full, 2, "x", 5, 5);
        refusedAdd(full, 3, "|", 4, 5);
        refusedAdd(full, 3, "x", 4, 5);
        refusedAdd(full, 4, "|", 5, 6);
        refusedAdd(full, 4, "", 5, 6);
        refusedAdd(full, 8, "x", 5, 6);
        Run one = Desks.texts("a.0-5:x");
        refusedAdd(one, 1, "x", -1, 5);
        refusedAdd(one, 1, "", 0, 1001);
        refusedAdd(one, 2, "", 3, 3);
        refusedAdd(one, 3, "", 4, 5);
        refusedAdd(one, 4, "", 5, 6);
    }

    private void refusedAdd(Run before, int reason, String text, int first, int end) {
        check.refusesEmpty("add of '" + text + "' at " + first + ", " + end, reason, 0, before, text,
                desk -> desk.add(0, 0, first, end));
    }

    private void exceptionsOfAddInTheirOrder() {
        check.about("If several exceptions apply, the one that is documented first is thrown.");
        for (int track : new int[] {-1, 2}) {
            check.leavesEmpty("no track and no kind", IndexOutOfBoundsException.class, BUSY, "x", desk -> desk.add(track, 3, 0, 1));
            check.leavesEmpty("no track and refused", IndexOutOfBoundsException.class, BUSY, "|", desk -> desk.add(track, 0, -1, 1));
            check.leavesEmpty("all of them", IndexOutOfBoundsException.class, BUSY, "", desk -> desk.add(track, -1, 5, 5));
        }
        for (int kind : new int[] {-1, 3}) {
            check.leavesEmpty("no kind and refused", IllegalArgumentException.class, BUSY, "|", desk -> desk.add(0, kind, -1, 1));
        }
        for (int track : EXTREMES) {
            check.leaves("no track and no caption", IndexOutOfBoundsException.class, FED, desk -> desk.move(track, track, 5, 5));
        }
        check.leaves("no caption and refused", IndexOutOfBoundsException.class, FED, desk -> desk.move(0, 3, 5, 5));
    }

    private void addingToNoTrackLeavesTheRefusal() {
        check.about("A call that [...] adds a caption to a track that there is not, leaves the refusal as it is.");
        for (int track : new int[] {-1, 2, Integer.MIN_VALUE, Integer.MAX_VALUE}) {
            Run call = Run.failing(desk -> desk.add(track, 0, -1, 1001));
            check.same("the reason", BUSY.then(call).made().refusal(true), 1);
            check.same("the item", BUSY.then(call).made().refusal(false), 1);
            check.fails("none", java.util.NoSuchElementException.class, () -> call.made().refusal(true));
        }
        Run refused = BUSY.then(Run.failing(desk -> desk.add(1, 0, 5, 5)));
        check.same("the reason of a track that there is", refused.made().refusal(true), 2);
        check.same("its item", refused.made().refusal(false), 0);
    }

    private void removeTellsWhatRemains() {
        check.about("Returns the number of captions that remain in the track.");
        Desk desk = captions(1, 16).made();
        for (int left = 15; left >= 0; left--) {
            check.same("remove", desk.remove(1, left * 5 % (left + 1)), left);
        }
        check.fails("one more", IndexOutOfBoundsException.class, () -> desk.remove(1, 0));
        check.same("the last one", full(0).made().remove(0, 15), 15);
        Desk first = full(0).then(made -> made.remove(0, 0)).made();
        check.same("then the first one is", first.caption(0, 0, 0), 10);
        check.same("and the last one", first.caption(0, 14, 0), 150);
    }

    private void moveTellsTheNumberThen() {
        check.about("Returns the number of the caption then.");
        Run full = full(1);
        for (int caption : new int[] {0, 1, 8, 14, 15}) {
            check.same("behind all", full.made().move(1, caption, 999, 1000), 15);
            check.same("where it is", full.made().move(1, caption, caption * 10, caption * 10 + 5), caption);
            check.same("one frame longer", full.made().move(1, caption, caption * 10, caption * 10 + 6), caption);
            check.same("to the frames 75 to 79", full.made().move(1, caption, 75, 80), caption < 8 ? 7 : 8);
            check.same("its text", full.then(desk -> desk.move(1, caption, 999, 1000)).made().letter(1, 15, 2), 'b');
        }
        check.same("before all", Desks.reading("a.1-2:x;a.2-3:y").move(0, 1, 0, 1), 0);
    }
}
