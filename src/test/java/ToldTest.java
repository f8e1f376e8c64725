import java.util.NoSuchElementException;

/** Promises 16 to 21: caption, letter, shown, track, fastest, speed. */
final class ToldTest {
    private final Check check = new Check("ToldTest");

    public static void main(String[] args) {
        ToldTest test = new ToldTest();
        test.promise16Caption();
        test.promise16Needs();
        test.promise16Looseness();
        test.promise16Tightness();
        test.promise16Width();
        test.promise16Step();
        test.promise16Partner();
        test.promise17Letter();
        test.promise18Shown();
        test.promise19Track();
        test.promise20Fastest();
        test.promise21Speed();
        test.check.end();
    }

    private void figures(Desk desk, int track, int caption, int... due) {
        for (int what = 0; what < due.length; what++) {
            check.same("caption(" + track + ", " + caption + ", " + what + ")", desk.caption(track, caption, what), due[what]);
        }
    }

    private void problems(String what, Desk desk, int track, int caption, int due) {
        check.same(what, desk.caption(track, caption, 5), due);
    }

    private void promise16Caption() {
        Desk desk = Desks.reading("a.10-40:hello|yo;a*43-60:a_b;b!12-45:xyz;c10;c40;c11", "c39;b.100-200:q");
        figures(desk, 0, 0, 10, 40, 0, 7, 12, 0, 0, 8, 5, 2, -1, 28);
        figures(desk, 0, 1, 43, 60, 2, 3, 4, 2 + 32, 0, 3, 3, 0, 3, 2);
        figures(desk, 1, 0, 12, 45, 1, 3, 3, 2, 0, 3, 3, 2, -1, 28);
        figures(desk, 1, 1, 100, 200, 0, 1, 2, 32, -1, 1, 1, 0, 55, 0);
        int[][] wrong = {{-1, 0}, {2, 0}, {0, -1}, {0, 2}, {1, 2}, {Integer.MAX_VALUE, 0}, {0, Integer.MIN_VALUE}};
        for (int[] pair : wrong) {
            check.fails("caption " + pair[0] + ", " + pair[1], IndexOutOfBoundsException.class,
                    () -> desk.caption(pair[0], pair[1], -1));
        }
        for (int what : new int[] {-1, 12, Integer.MIN_VALUE, Integer.MAX_VALUE}) {
            check.fails("what " + what, IllegalArgumentException.class, () -> desk.caption(0, 0, what));
        }
    }

    private void promise16Needs() {
        Desk desk = Desks.reading("a.10-20:abcdefg;b!10-20:abcdefg;b*20-30:abcdefg");
        int[][] due = {{5, 35, 18, 28}, {7, 25, 13, 20}, {15, 12, 6, 10}, {16, 11, 6, 9}, {25, 7, 4, 6}, {30, 6, 3, 5}};
        for (int[] row : due) {
            desk.set(0, row[0]);
            check.same("speech at " + row[0], desk.caption(0, 0, 4), row[1]);
            check.same("sign at " + row[0], desk.caption(1, 0, 4), row[2]);
            check.same("song at " + row[0], desk.caption(1, 1, 4), row[3]);
        }
        check.same("a new line is no load", Desks.reading("a.1-2:abc|def").caption(0, 0, 4), 10);
        problems("shown for fewer frames", Desks.reading("a!10-15:abcdefg"), 0, 0, 1);
        problems("shown for just enough", Desks.reading("a!10-16:abcdefg"), 0, 0, 0);
    }

    private void promise16Looseness() {
        Desk desk = Desks.reading("a!10-40:x;c7;c43");
        problems("both are loose", desk, 0, 0, 6);
        desk.set(1, 2);
        problems("out of the zone", desk, 0, 0, 0);
        desk.set(1, 3);
        desk.cut(10, true);
        problems("a frame that is a cut is not loose", desk, 0, 0, 4);
        desk.cut(40, true);
        problems("nor is an end", desk, 0, 0, 0);
        Desk edge = Desks.reading("a!0-1000:x;c3;c997");
        problems("the edges of the film", edge, 0, 0, 6);
        edge.set(1, 0);
        problems("the zone 0", edge, 0, 0, 0);
    }

    private void promise16Tightness() {
        Desk desk = Desks.reading("a!10-20:x;a!21-30:y;a!30-40:z;a!42-50:w");
        problems("the first one", desk, 0, 0, 0);
        problems("a gap of 1", desk, 0, 1, 8);
        problems("no gap", desk, 0, 2, 0);
        problems("the least gap", desk, 0, 3, 0);
        desk.set(2, 3);
        problems("less than the least gap", desk, 0, 3, 8);
        problems("no gap is never tight", desk, 0, 2, 0);
        desk.set(2, 0);
        problems("no least gap", desk, 0, 1, 0);
    }

    private void promise16Width() {
        Desk desk = Desks.reading("a!0-90:abcdefghijklmnopq", "b!0-90:ab|cdefghijklmnopqrst");
        check.same("longest line", desk.caption(0, 0, 8), 17);
        check.same("longest line behind |", desk.caption(1, 0, 8), 18);
        problems("17 in 16", desk, 0, 0, 16);
        desk.set(5, 17);
        problems("17 in 17", desk, 0, 0, 0);
        problems("18 in 17", desk, 1, 0, 16);
        check.same("longest line before |", Desks.reading("a.0-9:abcd|ef").caption(0, 0, 8), 4);
        check.same("of two lines alike", Desks.reading("a.0-9:abc|def").caption(0, 0, 8), 3);
    }

    private void promise16Step() {
        Desk desk = Desks.reading("a.100-200:x;b*105-195:x");
        problems("the tolerance", desk, 0, 0, 0);
        problems("the partner's", desk, 1, 0, 0);
        desk.move(1, 0, 106, 200);
        problems("the first frame differs", desk, 0, 0, 32);
        desk.move(1, 0, 100, 206);
        problems("the end differs", desk, 1, 0, 32);
        desk.set(4, 6);
        problems("a greater tolerance", desk, 1, 0, 0);
        desk.remove(0, 0);
        problems("no partner", desk, 1, 0, 32);
        problems("a sign needs no partner", Desks.reading("a!100-200:x"), 0, 0, 0);
        problems("a sign is a partner", Desks.reading("a!100-200:x;b.100-200:y"), 1, 0, 0);
    }

    private void promise16Partner() {
        Desk desk = Desks.reading("a.10-30:x;b.0-15:p;b.25-35:q;b.40-50:r");
        check.same("of several the first one", desk.caption(0, 0, 6), 0);
        check.same("shared", desk.caption(0, 0, 11), 5);
        desk.move(1, 1, 24, 35);
        check.same("the most frames", desk.caption(0, 0, 6), 1);
        check.same("shared then", desk.caption(0, 0, 11), 6);
        check.same("the partner of another one's partner", desk.caption(1, 0, 6), 0);
        check.same("what it shares", desk.caption(1, 0, 11), 5);
        check.same("none", desk.caption(1, 2, 6), -1);
        check.same("shares nothing", desk.caption(1, 2, 11), 0);
        check.same("touching is not sharing", Desks.reading("a.10-20:x;b.20-30:y").caption(0, 0, 6), -1);
    }

    private void promise17Letter() {
        Desk desk = Desks.reading("a.10-40:a_|z;b.10-40:q");
        String text = "a_|z";
        for (int i = 0; i < text.length(); i++) {
            check.same("letter " + i, desk.letter(0, 0, i), text.charAt(i));
        }
        for (int wrong : new int[] {-1, 4, 23, 24, Integer.MIN_VALUE, Integer.MAX_VALUE}) {
            check.fails("letter " + wrong, NoSuchElementException.class, () -> desk.letter(0, 0, wrong));
        }
        int[][] pairs = {{-1, 0}, {2, 0}, {0, 1}, {0, -1}, {Integer.MAX_VALUE, Integer.MAX_VALUE}};
        for (int[] pair : pairs) {
            check.fails("letter of none", IndexOutOfBoundsException.class, () -> desk.letter(pair[0], pair[1], -1));
        }
    }

    private void promise18Shown() {
        Desk desk = Desks.reading("a.10-40:a;a.40-41:b;b.0-1000:c");
        check.same("the first frame", desk.shown(0, 10), 0);
        check.same("the last frame", desk.shown(0, 39), 0);
        check.same("the next one", desk.shown(0, 40), 1);
        check.same("all of the film", desk.shown(1, 0) + desk.shown(1, 999), 0);
        for (int none : new int[] {0, 9, 41, 999}) {
            check.fails("shown on " + none, NoSuchElementException.class, () -> desk.shown(0, none));
        }
        for (int wrong : new int[] {-1, 1000, Integer.MIN_VALUE, Integer.MAX_VALUE}) {
            check.fails("no frame " + wrong, IndexOutOfBoundsException.class, () -> desk.shown(0, wrong));
            check.fails("no track " + wrong, IndexOutOfBoundsException.class, () -> desk.shown(wrong, 10));
        }
    }

    private void promise19Track() {
        Desk desk = Desks.reading("a.10-12:abc|d;a.13-22:e;a!50-60:f;a!65-66:gg;c12;c55", "b.13-23:h;c61;c23");
        int[] due = {22, 8, 2, 3, 1, 0, 1, 1, 2};
        for (int what = 0; what < due.length; what++) {
            check.same("track(0, " + what + ")", desk.track(0, what), due[what]);
        }
        desk.set(3, 4);
        check.same("the signs are too far from each other", desk.track(0, 8), 1);
        desk.set(5, 5);
        Desks.read(desk, "b.100-200:abcdef|ab;b.201-300:ab|abcde;b.300-301:x");
        check.same("too wide", desk.track(1, 5), 1);
        check.same("too short", desk.track(1, 2), 1);
        check.same("tight", desk.track(1, 4), 1);
        check.same("out of step", desk.track(1, 6), 3);
        check.same("can be merged: one has two new lines", desk.track(1, 8), 1);
        for (int what = 0; what < due.length; what++) {
            check.same("an empty track", new Desk().track(1, what), 0);
        }
        for (int wrong : new int[] {-1, 9, Integer.MIN_VALUE, Integer.MAX_VALUE}) {
            check.fails("what " + wrong, IllegalArgumentException.class, () -> desk.track(0, wrong));
            check.fails("track " + wrong, IndexOutOfBoundsException.class, () -> desk.track(wrong, wrong));
        }
        check.fails("track 2", IndexOutOfBoundsException.class, () -> desk.track(2, 0));
        Desk over = Desks.reading("a.10-20:x;a.20-30:y;c10;c20;c30");
        check.same("cuts at the ends only", over.track(0, 7), 0);
        over.cut(19, true);
        check.same("a cut at the last frame", over.track(0, 7), 1);
    }

    private void promise20Fastest() {
        Desk desk = Desks.reading("a.0-20:ab;a.30-40:c;a.50-53:_;b.0-7:ab|c;b.7-14:abc");
        check.same("the fastest", desk.fastest(0), 2);
        check.same("a new line is no load", desk.fastest(1), 0);
        desk.remove(0, 2);
        check.same("of two alike the first one", desk.fastest(0), 0);
        desk.move(0, 1, 30, 39);
        check.same("a little faster", desk.fastest(0), 1);
        Desk exact = new Desk();
        exact.film(9999);
        Desks.add(exact, 0, 0, 0, 4996, "abcdefghijklmnopqrstuvwx");
        Desks.add(exact, 0, 0, 4996, 9783, "abcdefghijklmnopqrstuvw");
        check.same("24/4996 to 23/4787, exactly", exact.fastest(0), 24L * 4787 >= 23L * 4996 ? 0 : 1);
        check.fails("no captions", NoSuchElementException.class, () -> exact.fastest(1));
        for (int wrong : new int[] {-1, 2, Integer.MIN_VALUE, Integer.MAX_VALUE}) {
            check.fails("track " + wrong, IndexOutOfBoundsException.class, () -> desk.fastest(wrong));
        }
    }

    private void promise21Speed() {
        Desk desk = Desks.reading("a.0-20:ab;a.30-37:c|d");
        check.sameDouble("speed", desk.speed(0), 25.0 * 4 / 27);
        check.sameDouble("multiplied first", Desks.reading("a.0-27:abcdefghi").speed(0), 225.0 / 27.0);
        check.fails("no captions", ArithmeticException.class, () -> desk.speed(1));
        for (int wrong : new int[] {-1, 2, Integer.MIN_VALUE, Integer.MAX_VALUE}) {
            check.fails("track " + wrong, IndexOutOfBoundsException.class, () -> desk.speed(wrong));
        }
    }
}
