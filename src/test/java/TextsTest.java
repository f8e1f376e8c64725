import java.util.NoSuchElementException;

/** Promises 22 to 24: read, faultPosition, refusal. */
final class TextsTest {
    private static final String LONGEST = "abcdefghijklmnopqrstuvwx";

    private final Check check = new Check("TextsTest");

    public static void main(String[] args) {
        TextsTest test = new TextsTest();
        test.promise22Read();
        test.promise22ReadAsManyAsFit();
        test.promise22ReadAllOrNone();
        test.promise23Faults();
        test.promise23FaultIsKept();
        test.promise24Refusals();
        test.promise24RefusalIsKept();
        test.check.end();
    }

    private void promise22Read() {
        Desk desk = new Desk();
        check.same("three items", Desks.read(desk, "b*0030-40:_q|z_;a!5-0009:a;c999"), 3);
        check.same("the input is empty", desk.number(13), 0);
        check.same("one change", desk.number(12), 1);
        check.isTrue("track 0", Desks.captions(desk, 0).equals("1/5-9:a"));
        check.isTrue("track 1", Desks.captions(desk, 1).equals("2/30-40:_q|z_"));
        check.same("a cut", desk.shot(999), 1);
        check.same("a cut again, and one away", Desks.read(desk, "c0999;u5;c4;u999;u4;u4"), 6);
        check.same("no cuts", desk.number(7), 0);
        check.same("24 words", Desks.read(desk, "a.100-200:" + LONGEST), 1);
        check.isTrue("their text", LONGEST.equals(Desks.text(desk, 0, 1)));
        desk.undo();
        desk.undo();
        check.same("undone as one", desk.number(7), 1);
    }

    private void promise22ReadAsManyAsFit() {
        Desk desk = new Desk();
        check.same("20 items", Desks.read(desk, "c1;c2;c3;c4;c5;c6;c7;c8;c9;u1;u2;u3;u4;u5;u6;u7;u8;u9;c1;c22"), 20);
        check.same("their cuts", desk.number(7), 2);
        check.same("of 60 characters", Desks.read(desk, "a.1-2:x;a.3-4:y;a.5-6:z;a.7-8:w;c1;c2;c3;c4;c5;c6;c7;c8;u10"), 13);
        check.same("captions", desk.number(8), 4);
    }

    private void refusedItem(Desk desk, String text, int reason, int item) {
        int changes = desk.number(12);
        check.fails(text, UnsupportedOperationException.class, () -> Desks.read(desk, text));
        check.same(text + ": reason", desk.refusal(true), reason);
        check.same(text + ": item", desk.refusal(false), item);
        check.same(text + ": changes", desk.number(12), changes);
        check.same(text + ": input", desk.number(13), 0);
    }

    private void promise22ReadAllOrNone() {
        Desk desk = Desks.reading("a.10-40:ab;c50");
        refusedItem(desk, "c60;u50;b.1-2:x;a.20-60:x", 3, 3);
        check.same("the cut is still there", desk.shot(50), 1);
        check.same("the other one is not", desk.shot(60), 1);
        check.same("no caption of track 1", desk.number(9), 0);
        check.isTrue("track 0", Desks.captions(desk, 0).equals("0/10-40:ab"));
        check.same("changes", desk.number(12), 1);
        desk.undo();
        check.same("the change before is undone", desk.number(8) + desk.number(7), 0);
        for (int i = 0; i < 9; i++) {
            desk.set(0, 10 + i);
        }
        refusedItem(desk, "c60;c0", 1, 1);
        check.same("8 can be undone", desk.number(12), 8);
        for (int i = 7; i >= 0; i--) {
            check.same("undo after a refused text", desk.undo(), i);
            check.same("the speed then", desk.number(0), 10 + i);
        }
    }

    private void fault(String text, int position) {
        Desk desk = Desks.reading("c5");
        check.fails(text, IllegalArgumentException.class, () -> Desks.read(desk, text));
        check.same(text + ": position", desk.faultPosition(), position);
        check.same(text + ": input", desk.number(13), 0);
        check.same(text + ": changes", desk.number(12), 1);
        check.fails(text + " is no refusal", NoSuchElementException.class, () -> desk.refusal(true));
    }

    private void promise23Faults() {
        String[] texts = {"", "d", "A", "a", "a;", "a?", "a.", "a.-", "a.5", "a.5:", "a.5-", "a.5-:", "a.5-9", "a.5-9-",
            "a.5-9:", "a.5-9:;", "a.5-9:A", "a.5-9:x:", "a.5-9:x;", "a.5-9:x;;", "c", "c;", "c-", "c12345", "c5,", "c5;",
            "u", "ux", "u5;u", "u5 ", " c5", "c5;c6;d", "a.12345-9:x", "a.1-12345:x", "a.1-9:" + LONGEST + "y",
            "a.1-9:" + LONGEST + ";", "b!1-9:x1", "b*1-9:x|y|z;q", "b**", "c5\u0000", "\u0000", "c\u0661", "c5;\uffff",
            "a.1-9:\u00e9", "a.0-1000000:x", "cc", "a.1-9:a b"};
        int[] positions = {0, 0, 0, 1, 1, 1, 2, 2, 3, 3, 4, 4, 5, 5,
            6, 6, 6, 7, 8, 8, 1, 1, 1, 5, 2, 3,
            1, 1, 4, 2, 0, 6, 6, 8, 30,
            31, 7, 12, 2, 2, 0, 1, 3,
            6, 8, 1, 7};
        for (int i = 0; i < texts.length; i++) {
            fault(texts[i], positions[i]);
        }
        fault("c1;c2;c3;c4;c5;c6;c7;c8;c9;u1;u2;u3;u4;u5;u6;u7;u8;u9;u1;u2;", 60);
    }

    private void promise23FaultIsKept() {
        Desk desk = new Desk();
        check.fails("none at first", NoSuchElementException.class, desk::faultPosition);
        check.fails("a fault", IllegalArgumentException.class, () -> Desks.read(desk, "c5;x"));
        check.same("its position", desk.faultPosition(), 3);
        Desks.read(desk, "c5");
        check.same("is kept by a text", desk.faultPosition(), 3);
        desk.undo();
        desk.saveSnapshot();
        desk.restoreSnapshot();
        check.fails("refused", UnsupportedOperationException.class, () -> Desks.read(desk, "c0"));
        check.same("is neither undone nor saved", desk.faultPosition(), 3);
        check.fails("another fault", IllegalArgumentException.class, desk::read);
        check.same("takes its place", desk.faultPosition(), 0);
    }

    private void promise24Refusals() {
        Desk desk = Desks.reading("a.10-40:ab");
        refusedItem(desk, "c1000", 1, 0);
        refusedItem(desk, "c5;u0", 1, 1);
        refusedItem(desk, "u1000", 1, 0);
        refusedItem(desk, "a.900-1001:x", 1, 0);
        refusedItem(desk, "b.9-9:x", 2, 0);
        refusedItem(desk, "b.9-5:|", 2, 0);
        refusedItem(desk, "b.1-5:x;b.4-6:y", 3, 1);
        refusedItem(desk, "a.10-11:|", 3, 0);
        refusedItem(desk, "b.1-5:x;b.5-6:y|", 4, 1);
        refusedItem(desk, "b.1-5:|", 4, 0);
        refusedItem(desk, "b.1-5:a|b|c", 4, 0);
        for (int i = 1; i < 16; i++) {
            Desks.add(desk, 0, 0, i * 50, i * 50 + 9, "x");
        }
        refusedItem(desk, "c5;c6;a.0-5:x", 8, 2);
        for (int i = 1; i <= 19; i++) {
            desk.cut(i, true);
        }
        refusedItem(desk, "c5;c20;c7;c21", 8, 3);
        check.same("one away, one more", Desks.read(desk, "c20;u5;c21;c20"), 4);
        refusedItem(desk, "c0", 1, 0);
    }

    private void promise24RefusalIsKept() {
        Desk desk = Desks.reading("a.10-40:ab", "c20");
        refusedItem(desk, "c5;c0", 1, 1);
        Desks.read(desk, "b.1-2:x");
        desk.undo();
        desk.saveSnapshot();
        desk.restoreSnapshot();
        check.fails("no text", IllegalArgumentException.class, desk::read);
        check.fails("no cut", IndexOutOfBoundsException.class, () -> desk.cut(0, true));
        check.fails("no track", IndexOutOfBoundsException.class, () -> desk.add(2, 0, 5, 5));
        check.fails("no kind", IllegalArgumentException.class, () -> desk.add(0, 3, 5, 5));
        check.fails("no setting", IllegalArgumentException.class, () -> desk.set(6, 5));
        check.fails("no length", IllegalArgumentException.class, () -> desk.film(5));
        check.same("the reason stays", desk.refusal(true), 1);
        check.same("the item stays", desk.refusal(false), 1);
        check.fails("another refusal", UnsupportedOperationException.class, () -> desk.move(0, 0, 5, 5));
        check.same("the reason", desk.refusal(true), 2);
        check.same("no item", desk.refusal(false), 0);
    }
}
