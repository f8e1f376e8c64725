import java.util.NoSuchElementException;

/** The boundary cases of the texts of items, faults and refusals: promises 22 to 24, sentence by sentence. */
final class TextEdgesTest {
    private static final Run NEW = desk -> { };
    private static final Run BUSY = Desks::busy;
    private static final String LONGEST = "abcdefghijklmnopqrstuvwx";

    private final Check check = new Check("TextEdgesTest");

    public static void main(String[] args) {
        TextEdgesTest test = new TextEdgesTest();
        test.everyStartOfAText();
        test.everyOtherCharacter();
        test.theLengthOfTheText();
        test.digitsOfANumber();
        test.valuesOfNumbers();
        test.charactersOfWords();
        test.wordsThatWouldNotBeValid();
        test.tracksAndKindsOfItems();
        test.itemsAreSeparated();
        test.fullInputs();
        test.tellsTheNumberOfItems();
        test.itemsInTheirOrder();
        test.allOrNone();
        test.theInputIsEmptyAfterRead();
        test.faultsAreKept();
        test.itemsThatMakeCuts();
        test.itemsThatTakeCuts();
        test.itemsBeyondTwentyCuts();
        test.framesOfItems();
        test.itemsShareNoFrames();
        test.reasonsOfItemsInTheirOrder();
        test.theNumberOfTheItem();
        test.theLatestRefusal();
        test.whatIsNoRefusal();
        test.faultBeforeRefusal();
        test.check.end();
    }

    private void reads(Run before, String text, int items) {
        check.same("read of " + text, Desks.read(before.made(), text), items);
    }

    private void refused(Run before, String text, int reason, int item) {
        check.refusesEmpty("read of " + text, reason, item, before, text, Desk::read);
    }

    /** Texts with all forms of items, and the offsets at which their starts are texts, too. */
    private static final String[] TEXTS = {"a.1-2:xy;c345;b!0067-890:_|z;u0001", "u7;b*12-3456:a;a!9-10:b_c;c12"};
    private static final String[] STARTS = {"7,8,11,12,13,26,27,28,31,32,33,34", "2,14,23,24,25,28,29"};

    private static boolean isStart(int text, int size) {
        return ("," + STARTS[text] + ",").contains("," + size + ",");
    }

    /** The items may be refused, but they are items. */
    private static boolean hasNoFault(String text) {
        try {
            Desks.read(new Desk(), text);
        } catch (UnsupportedOperationException e) {
            return true;
        } catch (IllegalArgumentException e) {
            return false;
        }
        return true;
    }

    private void everyStartOfAText() {
        check.about("or the length of the text if it ends too early");
        for (int text = 0; text < TEXTS.length; text++) {
            for (int size = 0; size <= TEXTS[text].length(); size++) {
                String start = TEXTS[text].substring(0, size);
                if (isStart(text, size)) {
                    check.isTrue(start + " is a text", hasNoFault(start));
                } else {
                    check.faulty(size, NEW, start);
                }
            }
        }
        check.faulty(0, BUSY, "");
        check.faulty(7, BUSY, "a.5-10:");
    }

    private void everyOtherCharacter() {
        check.about("The fault position of a text is the offset of the first character that cannot continue such a text");
        for (String text : TEXTS) {
            for (int place = 0; place <= text.length(); place++) {
                for (char wrong : new char[] {'#', 'A', ' ', '\n', 0, '/', '`', '{', '~', 0xe1, 0x161, 65535}) {
                    String behind = place < text.length() ? text.substring(place + 1) : "";
                    faultAt(place, text.substring(0, place) + wrong + behind);
                    faultAt(place, text.substring(0, place) + wrong);
                }
            }
        }
        check.faulty(0, BUSY, "#");
        check.faulty(3, BUSY, "c5;x");
        check.faulty(7, BUSY, "a.1-2:|#");
    }

    /** As faulty, without a look at all the rest. */
    private void faultAt(int position, String text) {
        Desk desk = Desks.feed(new Desk(), text);
        check.fails("read of " + text, IllegalArgumentException.class, desk::read);
        check.same("the fault position of " + text, desk.faultPosition(), position);
    }

    private void theLengthOfTheText() {
        check.about("The input holds at most 60 characters.");
        String fiftyNine = "a.1-2:" + LONGEST + ";c1;b.1-2:abcdefghijklmnopqrs";
        check.same("its length", fiftyNine.length(), 59);
        reads(NEW, fiftyNine, 3);
        reads(NEW, fiftyNine + "t", 3);
        check.faulty(59, NEW, fiftyNine + "#");
        check.faulty(60, NEW, fiftyNine + ";");
    }

    private void digitsOfANumber() {
        check.about("number: digit [ digit [ digit [ digit ] ] ]");
        for (String number : new String[] {"5", "05", "005", "0005"}) {
            reads(NEW, "c" + number, 1);
            reads(NEW, "u" + number, 1);
            reads(NEW, "a." + number + "-9:x", 1);
            reads(NEW, "a.1-" + number + ":x", 1);
            check.same("the cut " + number, Desks.texts("c" + number).made().shot(5), 1);
        }
        for (String kind : new String[] {"c", "u"}) {
            faultAt(1, kind);
            faultAt(1, kind + ";");
            faultAt(5, kind + "00005");
            faultAt(5, kind + "12345");
            faultAt(5, kind + "1234 ");
        }
        faultAt(2, "a.-9:x");
        faultAt(6, "a.00005-9:x");
        faultAt(4, "a.5-:x");
        faultAt(8, "a.5-00009:x");
        faultAt(8, "a.5-12345:x");
        faultAt(1, "c-5");
        faultAt(1, "c+5");
        faultAt(1, "c/");
        faultAt(1, "c:");
        faultAt(2, "c5\u0665");
    }

    private void valuesOfNumbers() {
        check.about("with its first frame, its end and its text");
        Run longest = desk -> desk.film(9999);
        Desk whole = longest.then(Desks.texts("a.0000-9999:x")).made();
        check.same("the first frame", whole.caption(0, 0, 0), 0);
        check.same("the end", whole.caption(0, 0, 1), 9999);
        Desk digits = longest.then(Desks.texts("b!1234-5678:x;c9876;c1")).made();
        check.same("the first frame", digits.caption(1, 0, 0), 1234);
        check.same("the end", digits.caption(1, 0, 1), 5678);
        check.same("the cuts", digits.shot(9875) * 10 + digits.shot(9876), 12);
        reads(longest, "c9998", 1);
        refused(longest, "c9999", 1, 0);
        reads(longest, "a.9998-9999:x", 1);
        refused(longest, "a.9999-9999:x", 2, 0);
    }

    private void charactersOfWords() {
        check.about("Words are 1 to 24 small letters, _ or |.");
        for (int size = 1; size <= 24; size++) {
            String words = LONGEST.substring(0, size);
            Desk desk = Desks.reading("b*100-200:" + words);
            check.sameText("the words", Desks.text(desk, 1, 0), words);
        }
        faultAt(10, "b*100-200:");
        faultAt(10, "b*100-200:;");
        faultAt(34, "b*100-200:" + LONGEST + "y");
        faultAt(34, "b*100-200:" + LONGEST + "_");
        faultAt(34, "b*100-200:" + LONGEST + "|");
        faultAt(35, "b*100-200:" + LONGEST + ";");
        reads(NEW, "b*100-200:" + LONGEST + ";c5", 2);
        for (int sign = 0; sign <= 300; sign++) {
            if (sign == '_' || sign >= 'a' && sign <= 'z') {
                reads(NEW, "a.1-2:" + (char) sign, 1);
                reads(NEW, "a.1-2:x" + (char) sign, 1);
            } else if (sign != '|') {
                faultAt(6, "a.1-2:" + (char) sign);
                faultAt(sign == ';' ? 8 : 7, "a.1-2:x" + (char) sign);
            }
        }
        check.sameText("spaces and a new line", Desks.captions(Desks.reading("a.1-2:_|_"), 0), "0/1-2:_|_");
    }

    private void wordsThatWouldNotBeValid() {
        check.about("A text of words that would not be valid has no fault, and its item is refused.");
        for (String words : new String[] {"|", "|a", "a|", "a||b", "a|b|c", "||", LONGEST.replace('x', '|'), "|".repeat(24)}) {
            refused(BUSY, "b.500-510:" + words, 4, 0);
            refused(BUSY, "c5;b.500-510:" + words + ";c6", 4, 1);
            Desk desk = NEW.then(Run.failing(Desks.texts("a.1-2:" + words))).made();
            check.fails("no fault of " + words, NoSuchElementException.class, desk::faultPosition);
        }
        check.faulty(33, NEW, "b.500-510:" + "|".repeat(23) + "#");
        check.faulty(34, NEW, "b.500-510:" + "|".repeat(25));
        check.faulty(11, NEW, "a.1-2:a|b|c#");
    }

    private void tracksAndKindsOfItems() {
        check.about("to the track 0 (a) or 1 (b), speech, a sign or a song");
        String kinds = ".!*";
        for (int track = 0; track <= 1; track++) {
            for (int kind = 0; kind <= 2; kind++) {
                Desk desk = Desks.reading("" + "ab".charAt(track) + kinds.charAt(kind) + "3-7:x");
                check.sameText("the track", Desks.captions(desk, track), kind + "/3-7:x");
                check.same("the other track", desk.number(9 - track), 0);
            }
        }
        for (int sign = 0; sign <= 300; sign++) {
            if ("abcu".indexOf(sign) < 0) {
                faultAt(0, (char) sign + ".1-2:x");
            }
            if (kinds.indexOf(sign) < 0) {
                faultAt(1, "b" + (char) sign + "1-2:x");
            }
        }
        faultAt(1, "c.1-2:x");
        faultAt(1, "a1-2:x");
        faultAt(2, "a..1-2:x");
        faultAt(1, "ab.1-2:x");
    }

    private void itemsAreSeparated() {
        check.about("text: item { \";\" item }");
        reads(NEW, "c5", 1);
        reads(NEW, "c5;c6", 2);
        check.faulty(0, NEW, "");
        check.faulty(0, NEW, ";");
        check.faulty(0, NEW, ";c5");
        check.faulty(3, NEW, "c5;");
        check.faulty(3, NEW, "c5;;c6");
        check.faulty(2, NEW, "c5,c6");
        check.faulty(2, NEW, "c5c6");
        check.faulty(6, NEW, "c5;c6;");
        check.faulty(7, NEW, "a.1-2:c5");
    }

    private void fullInputs() {
        check.about("The input holds at most 60 characters.");
        StringBuilder twenty = new StringBuilder("c1");
        for (int i = 1; i < 20; i++) {
            twenty.append(i % 2 == 0 ? ";c" : ";u").append(i % 10);
        }
        check.same("its length", twenty.length(), 59);
        reads(NEW, twenty.toString().replace("u0", "u1").replace("c0", "c1"), 20);
        check.faulty(60, NEW, twenty + ";");
        reads(NEW, twenty.toString().replace("c0", "c1") + "1", 20);
        Run nineteen = Desks.texts(twenty.substring(0, 56).replace("c0", "c1"));
        check.same("19 items are one change", nineteen.made().number(12), 1);
    }

    private void tellsTheNumberOfItems() {
        check.about("Returns the number of items.");
        StringBuilder text = new StringBuilder("c1");
        for (int items = 1; items <= 20; items++) {
            reads(NEW, text.toString(), items);
            check.same("the cuts", Desks.reading(text.toString()).number(7), Math.min(items, 9));
            text.append(";c").append(items < 9 ? items + 1 : 1);
        }
        reads(BUSY, "a.1-2:x;b.1-2:x;c1;u1", 4);
    }

    private void itemsInTheirOrder() {
        check.about("Reads the input as a text of items and carries them out");
        check.same("made and taken away", Desks.reading("c5;u5").number(7), 0);
        check.same("taken away and made", Desks.reading("c5", "u5;c5").number(7), 1);
        check.sameText("captions are put in order", Desks.captions(Desks.reading("a.50-60:z;a.1-2:x;a.20-30:y"), 0),
                "0/1-2:x 0/20-30:y 0/50-60:z");
        check.same("is one change", Desks.reading("a.50-60:z;a.1-2:x;c5").number(12), 1);
        check.same("all of it is undone", Desks.texts("a.50-60:z;a.1-2:x;c5").then(Desk::undo).made().number(8), 0);
        check.same("is a change, also if nothing is different", Desks.reading("u5").number(12), 1);
        Run full = BUSY.then(Desks.texts("u1;u2"));
        check.same("of which 8 are kept", full.made().number(12), 8);
        check.sameText("undone", Whole.film(full.then(Desk::undo)), Whole.film(BUSY));
    }

    private void allOrNone() {
        check.about("carries them out, all of them or none");
        refused(BUSY, "c5;c6;b.500-510:x;u120;a.1-2:y;c900", 1, 5);
        refused(BUSY, "a.500-510:x;b.500-510:x;a.509-511:y", 3, 2);
        refused(BUSY, "c900;a.500-510:x", 1, 0);
        refused(NEW, "a.1-2:x;a.1-2:x", 3, 1);
        refused(Desks.texts("c5"), "u5;c0", 1, 1);
        reads(BUSY, "c5;c6;b.500-510:x;u120;a.1-2:y;c899", 6);
    }

    private void theInputIsEmptyAfterRead() {
        check.about("The input is empty afterwards, whatever happens.");
        for (String text : new String[] {"", "c5", "c0", "x", "c5;", "a.1-2:|", "x".repeat(60)}) {
            Desk desk = NEW.then(Run.failing(Desks.texts(text))).made();
            check.same("the input after " + text, desk.number(13), 0);
            check.same("the next character", desk.feed('c'), 1);
            desk.feed('7');
            check.same("the next text", desk.read(), 1);
        }
    }

    private void faultsAreKept() {
        check.about("Returns the fault position that was kept last.");
        check.leaves("none was kept", NoSuchElementException.class, NEW, Desk::faultPosition);
        check.leaves("none was kept", NoSuchElementException.class, Desks.texts("c5", "u5"), Desk::faultPosition);
        check.leaves("a refusal is none", NoSuchElementException.class, Run.failing(Desks.texts("c0")), Desk::faultPosition);
        Run fault = Run.failing(Desks.texts("c5;x"));
        check.same("after a text", fault.then(Desks.texts("c5")).made().faultPosition(), 3);
        check.same("after a refused text", fault.then(Run.failing(Desks.texts("c0"))).made().faultPosition(), 3);
        check.same("after an add", fault.then(Run.failing(desk -> desk.add(0, 0, 0, 1))).made().faultPosition(), 3);
        check.same("after another fault", fault.then(Run.failing(Desks.texts("c"))).made().faultPosition(), 1);
        check.same("after the fault 0", fault.then(Run.failing(Desks.texts(""))).made().faultPosition(), 0);
        check.same("asked twice", fault.then(Desk::faultPosition).made().faultPosition(), 3);
        check.about("The input, the fault position and the refusal are neither undone nor saved, and stay.");
        check.same("after undo", Desks.texts("c5").then(fault).then(Desk::undo).made().faultPosition(), 3);
        Run saved = Run.failing(Desks.texts("c"));
        check.same("after restoreSnapshot", saved.then(Desk::saveSnapshot).then(fault).then(Desk::restoreSnapshot).made()
                .faultPosition(), 3);
        check.same("that is not saved", new Desk().saveSnapshot(), 0);
    }

    private void itemsThatMakeCuts() {
        check.about("1, [...] a cut would not be in the film; a cut is a frame from 1 to the length minus 1");
        for (int length : new int[] {100, 900, 1000, 9999}) {
            Run film = desk -> desk.film(length);
            for (int frame : new int[] {1, 2, length - 2, length - 1}) {
                reads(film, "c" + frame, 1);
                check.same("its shot", film.then(Desks.texts("c" + frame)).made().shot(frame), 1);
                check.same("the one before it", film.then(Desks.texts("c" + frame)).made().shot(frame - 1), 0);
            }
            refused(film, "c0", 1, 0);
            refused(film, "c0000", 1, 0);
            refused(film, "c" + length, 1, 0);
            if (length < 9999) {
                refused(film, "c" + (length + 1), 1, 0);
                refused(film, "c9999", 1, 0);
            }
        }
        check.about("make a cut, which is no refusal if it is there");
        reads(Desks.texts("c5"), "c5", 1);
        reads(NEW, "c5;c5;c5", 3);
        check.same("one cut", Desks.reading("c5;c5", "c5").number(7), 1);
    }

    private void itemsThatTakeCuts() {
        check.about("and take a cut away, likewise");
        for (int length : new int[] {100, 900, 1000, 9999}) {
            Run film = desk -> desk.film(length);
            for (int frame : new int[] {1, 2, length - 2, length - 1}) {
                reads(film, "u" + frame, 1);
                reads(film, "c" + frame + ";u" + frame + ";u" + frame, 3);
                check.same("none", film.then(Desks.texts("c" + frame, "u" + frame)).made().number(7), 0);
            }
            // A frame that no cut can have is out of the film for "u" as it is for "c".
            refused(film, "u0", 1, 0);
            refused(film, "u" + length, 1, 0);
        }
        check.same("the others stay", Desks.reading("c5;c6;c7", "u6").number(7), 2);
        check.same("before it", Desks.reading("c5;c6;c7", "u6").shot(5), 1);
        check.same("behind it", Desks.reading("c5;c6;c7", "u6").shot(7), 2);
    }

    private static Run cuts(int count) {
        return desk -> {
            for (int i = 0; i < count; i++) {
                desk.cut(10 + i * 7 % 20 * 3, true);
            }
        };
    }

    private void itemsBeyondTwentyCuts() {
        check.about("8, there would be [...] more than 20 cuts");
        reads(cuts(18), "c900;c901", 2);
        refused(cuts(18), "c900;c901;c902", 8, 2);
        reads(cuts(19), "c900", 1);
        refused(cuts(19), "c900;c5", 8, 1);
        refused(cuts(20), "c5", 8, 0);
        refused(cuts(20), "c999", 8, 0);
        reads(cuts(20), "c10", 1);
        reads(cuts(20), "c67;c10;c40", 3);
        reads(cuts(20), "u5", 1);
        reads(cuts(20), "u10;c5;u67;c999", 4);
        refused(cuts(20), "u10;c5;c999", 8, 2);
        refused(cuts(20), "u11;c5", 8, 1);
        refused(cuts(20), "c0", 1, 0);
        refused(cuts(20), "c1000", 1, 0);
    }

    private void framesOfItems() {
        check.about("1, a caption would [...] end behind the film; 2, a caption would not begin before its end");
        int[][] places = {{0, 1, 0}, {0, 1000, 0}, {999, 1000, 0}, {998, 999, 0}, {0, 1001, 1}, {999, 1001, 1}, {1000, 1001, 1},
            {1001, 1001, 1}, {1002, 1001, 1}, {9999, 9999, 1}, {0, 9999, 1}, {0, 0, 2}, {1, 0, 2}, {5, 5, 2}, {6, 5, 2},
            {1000, 1000, 2}, {1001, 1000, 2}, {9999, 0, 2}};
        for (int[] place : places) {
            String text = "b!" + place[0] + "-" + place[1] + ":x";
            if (place[2] == 0) {
                check.sameText(text, Desks.captions(Desks.reading(text), 1), "1/" + place[0] + "-" + place[1] + ":x");
            } else {
                refused(NEW, text, place[2], 0);
                refused(Desks.texts("c5;a.1-2:y"), "c6;" + text, place[2], 1);
            }
        }
    }

    private void itemsShareNoFrames() {
        check.about("3, it would share frames with another one of its track");
        Run one = Desks.texts("b.100-200:x");
        for (String place : new String[] {"99-100", "200-201", "0-100", "200-1000"}) {
            reads(one, "b." + place + ":y", 1);
            reads(NEW, "b.100-200:x;b." + place + ":y", 2);
        }
        for (String place : new String[] {"99-101", "199-200", "199-201", "100-101", "0-1000", "100-200", "150-151"}) {
            refused(one, "b." + place + ":y", 3, 0);
            refused(NEW, "b.100-200:x;b." + place + ":y", 3, 1);
            reads(one, "a." + place + ":y", 1);
        }
    }

    private void reasonsOfItemsInTheirOrder() {
        check.about("where several apply, the one with the lowest number counts");
        Run full = desk -> {
            for (int i = 0; i < 16; i++) {
                Desks.add(desk, 0, 0, i * 10, i * 10 + 5, "x");
            }
        };
        refused(full, "a.1002-1001:|", 1, 0);
        refused(full, "a.1000-1001:|", 1, 0);
        refused(full, "a.3-3:|", 2, 0);
        refused(full, "a.3-4:|", 3, 0);
        refused(full, "a.5-6:|", 4, 0);
        refused(full, "a.5-6:x", 8, 0);
        refused(full, "c5;c6;a.5-6:x", 8, 2);
        refused(full, "a.3-4:x", 3, 0);
        refused(full, "b.3-4:|", 4, 0);
        reads(full, "b.3-4:x", 1);
        check.about("all of them or none: the first item that is refused counts");
        refused(full, "b.3-4:|;c0", 4, 0);
        refused(full, "c5;b.3-4:|;c0", 4, 1);
        refused(full, "c5;c0;b.3-4:|", 1, 1);
    }

    private void theNumberOfTheItem() {
        check.about("the number of the item in a text, counted from 0");
        StringBuilder text = new StringBuilder();
        for (int item = 0; item < 20; item++) {
            refused(Desks.texts("c7"), text + "c0", 1, item);
            text.append("u").append(item % 9 + 1).append(";");
        }
        check.about("or 0 if it was no item of a text");
        Run item = Desks.texts("a.1-2:x;c500", "a.5-6:y;a.7-8:z|w").then(Run.failing(Desks.texts("c5;c6;c0")));
        check.same("the item", item.made().refusal(false), 2);
        Run[] calls = {desk -> desk.film(500), desk -> desk.add(0, 0, 5, 5), desk -> desk.move(0, 0, 5, 5),
            desk -> desk.split(0, 0, 0), desk -> desk.merge(0, 2), desk -> desk.retime(0, 100, 0, 200, 100)};
        int[] reasons = {1, 2, 2, 4, 5, 1};
        for (int i = 0; i < calls.length; i++) {
            Desk desk = item.then(Run.failing(calls[i])).made();
            check.same("the item behind call " + i, desk.refusal(false), 0);
            check.same("the reason behind call " + i, desk.refusal(true), reasons[i]);
        }
        Run snap = item.then(Desks.texts("c100;a.99-101:x")).then(Run.failing(desk -> desk.snap(0, 3)));
        check.same("the item behind snap", snap.made().refusal(false), 0);
        check.same("the reason behind snap", snap.made().refusal(true), 2);
    }

    private void theLatestRefusal() {
        check.about("The reason of the latest refusal is kept");
        check.leaves("no reason", NoSuchElementException.class, Desks.texts("c5"), desk -> desk.refusal(true));
        check.leaves("no item", NoSuchElementException.class, Desks.texts("c5"), desk -> desk.refusal(false));
        Run refused = Desks.texts("a.1-2:x").then(Run.failing(Desks.texts("c5;a.1-2:y")));
        Run[] others = {Desk::undo, Desk::saveSnapshot, desk -> Desks.read(desk, "c5"), Run.failing(Desk::read),
            desk -> Desks.add(desk, 1, 0, 1, 2, "x"), desk -> desk.move(0, 0, 5, 6),
            desk -> desk.film(500), desk -> desk.set(0, 20), desk -> desk.feed('x'), desk -> desk.refusal(true), desk -> desk.remove(0, 0),
            desk -> desk.fit(0, 0), desk -> desk.snap(0, 0), desk -> desk.retime(0, 1, 2, 2, 3)};
        for (int i = 0; i < others.length; i++) {
            Desk desk = refused.then(others[i]).made();
            check.same("the reason behind call " + i, desk.refusal(true), 3);
            check.same("the item behind call " + i, desk.refusal(false), 1);
        }
        Run restored = Run.failing(Desks.texts("c0")).then(Desk::saveSnapshot).then(refused).then(Desk::restoreSnapshot);
        check.same("is not saved", restored.made().refusal(true), 3);
        check.same("another one", refused.then(Run.failing(Desks.texts("c0"))).made().refusal(true), 1);
        check.same("its item", refused.then(Run.failing(Desks.texts("c0"))).made().refusal(false), 0);
    }

    private void whatIsNoRefusal() {
        check.about("Edits are refused for these reasons");
        Run[] calls = {desk -> desk.film(99), desk -> desk.set(0, 4), desk -> desk.cut(0, true), desk -> desk.add(0, 3, 0, 1),
            desk -> desk.add(2, 0, 0, 1), desk -> desk.remove(0, 0), desk -> desk.move(0, 0, 5, 5), desk -> desk.retime(0, 5, 5, 5, 5),
            desk -> desk.caption(0, 0, 0), desk -> desk.undo(), desk -> desk.restoreSnapshot(), Desks.texts("x"), desk -> desk.shot(-1),
            desk -> desk.fastest(0), desk -> desk.speed(0)};
        for (int i = 0; i < calls.length; i++) {
            Run call = calls[i];
            check.fails("none behind call " + i, NoSuchElementException.class, () -> Run.failing(call).made().refusal(true));
            check.same("the one before call " + i, Run.failing(Desks.texts("c5;c0")).then(Run.failing(call)).made().refusal(false), 1);
        }
    }

    private void faultBeforeRefusal() {
        check.about("If several exceptions apply, the one that is documented first is thrown.");
        check.faulty(3, BUSY, "c0;x");
        check.faulty(11, BUSY, "a.5-1000:x;");
        check.faulty(9, BUSY, "a.5-5:|;c");
    }
}
