/** Promises 7 to 15: feed, add, remove, move, split, merge, snap, fit, retime. */
final class CaptionsTest {
    private static final String LONGEST = "abcdefghijklmnopqrstuvwx";

    private final Check check = new Check("CaptionsTest");

    public static void main(String[] args) {
        CaptionsTest test = new CaptionsTest();
        test.promise7Feed();
        test.promise8Add();
        test.promise8AddRefused();
        test.promise8AddTexts();
        test.promise8AddAtTheMost();
        test.promise9Remove();
        test.promise10Move();
        test.promise10MoveRefused();
        test.promise11Split();
        test.promise11SplitRefused();
        test.promise12Merge();
        test.promise12MergeRefused();
        test.promise13Snap();
        test.promise13SnapRefused();
        test.promise14Fit();
        test.promise14FitHeldBack();
        test.promise15Retime();
        test.promise15RetimeRounds();
        test.promise15RetimeWrong();
        test.check.end();
    }

    private void refused(Desk desk, int reason, String what, Check.Call call) {
        String before = numbers(desk);
        check.fails(what, UnsupportedOperationException.class, call);
        check.same(what + ": reason", desk.refusal(true), reason);
        check.same(what + ": item", desk.refusal(false), 0);
        check.sameText(what + ": numbers", numbers(desk), before);
    }

    private static String numbers(Desk desk) {
        StringBuilder all = new StringBuilder();
        for (int what = 6; what <= 12; what++) {
            all.append(desk.number(what)).append(' ');
        }
        return all.toString();
    }

    private void captionsAre(Desk desk, int track, String due) {
        String got = Desks.captions(desk, track);
        check.isTrue("captions are " + got + ", due is " + due + ", which", got.equals(due));
    }

    private void noSuchCaption(String what, Desk desk, java.util.function.IntBinaryOperator call) {
        int[][] wrong = {{-1, 0}, {2, 0}, {0, -1}, {0, desk.number(8)}, {1, desk.number(9)},
            {Integer.MIN_VALUE, 0}, {Integer.MAX_VALUE, 0}, {0, Integer.MIN_VALUE}, {0, Integer.MAX_VALUE}};
        for (int[] pair : wrong) {
            check.fails(what + " of " + pair[0] + ", " + pair[1], IndexOutOfBoundsException.class,
                    () -> call.applyAsInt(pair[0], pair[1]));
        }
    }

    private void promise7Feed() {
        Desk desk = new Desk();
        for (int i = 1; i <= 60; i++) {
            check.same("feed " + i, desk.feed((char) (i * 1000)), i);
        }
        check.fails("the 61st", IllegalStateException.class, () -> desk.feed('a'));
        check.same("input", desk.number(13), 60);
        check.same("no change", desk.number(12), 0);
        check.fails("no text", IllegalArgumentException.class, desk::read);
        check.same("room again", desk.feed('a'), 1);
    }

    private void promise8Add() {
        Desk desk = new Desk();
        check.same("the first one", Desks.add(desk, 0, 0, 500, 600, "ab"), 0);
        check.same("the input is empty", desk.number(13), 0);
        check.same("behind it", Desks.add(desk, 0, 1, 600, 1000, "c_d"), 1);
        check.same("before both", Desks.add(desk, 0, 2, 0, 1, "e|f"), 0);
        check.same("between", Desks.add(desk, 0, 0, 499, 500, "g"), 1);
        check.same("the other track", Desks.add(desk, 1, 0, 499, 500, LONGEST), 0);
        captionsAre(desk, 0, "2/0-1:e|f 0/499-500:g 0/500-600:ab 1/600-1000:c_d");
        captionsAre(desk, 1, "0/499-500:" + LONGEST);
        check.same("changes", desk.number(12), 5);
    }

    private void promise8AddRefused() {
        Desk desk = Desks.reading("a.100-200:x");
        refused(desk, 1, "before the film", () -> Desks.add(desk, 0, 0, -1, 50, "y"));
        refused(desk, 1, "behind the film", () -> Desks.add(desk, 0, 0, 900, 1001, "y"));
        refused(desk, 1, "1 comes before 2", () -> Desks.add(desk, 0, 0, 1002, 1001, "y"));
        refused(desk, 1, "extremes", () -> Desks.add(desk, 0, 0, Integer.MIN_VALUE, Integer.MAX_VALUE, "y"));
        refused(desk, 2, "no frames", () -> Desks.add(desk, 0, 0, 50, 50, "y"));
        refused(desk, 2, "ends before the film", () -> Desks.add(desk, 0, 0, 50, -5, "y"));
        refused(desk, 2, "begins behind the film", () -> Desks.add(desk, 0, 0, 5000, 999, "y"));
        refused(desk, 2, "2 comes before 3", () -> Desks.add(desk, 0, 0, 150, 120, "y"));
        refused(desk, 3, "one frame shared", () -> Desks.add(desk, 0, 0, 199, 300, "y"));
        refused(desk, 3, "one frame shared before", () -> Desks.add(desk, 0, 0, 50, 101, "y"));
        refused(desk, 3, "round it", () -> Desks.add(desk, 0, 0, 50, 300, "y"));
        refused(desk, 3, "3 comes before 4", () -> Desks.add(desk, 0, 0, 120, 130, "|"));
        refused(desk, 4, "no text", () -> desk.add(0, 0, 200, 300));
        for (int wrong : new int[] {-1, 2, Integer.MIN_VALUE, Integer.MAX_VALUE}) {
            Desks.feed(desk, "ab");
            check.fails("track " + wrong, IndexOutOfBoundsException.class, () -> desk.add(wrong, 9, -1, 0));
            check.same("input after track " + wrong, desk.number(13), 0);
        }
        for (int wrong : new int[] {-1, 3, Integer.MIN_VALUE, Integer.MAX_VALUE}) {
            Desks.feed(desk, "ab");
            check.fails("kind " + wrong, IllegalArgumentException.class, () -> desk.add(0, wrong, -1, 0));
            check.same("input after kind " + wrong, desk.number(13), 0);
        }
        check.same("neither is a refusal", desk.refusal(true), 4);
    }

    private void promise8AddTexts() {
        String[] wrong = {"", "|", "|a", "a|", "a|b|c", LONGEST + "y", "aB", "a b", "a1", "a`", "a{", "a~", "a\n",
            "\u00e9", "a\u0161b", "\u0161"};
        for (String text : wrong) {
            Desk desk = new Desk();
            refused(desk, 4, "text " + text, () -> Desks.add(desk, 0, 0, 5, 10, text));
            check.same("input after " + text, desk.number(13), 0);
        }
        for (String text : new String[] {"a", "z", "_", "_|_", "a_|_b", "az|az", LONGEST}) {
            Desk desk = new Desk();
            check.same("text " + text, Desks.add(desk, 0, 0, 5, 10, text), 0);
            check.isTrue("text is " + text, text.equals(Desks.text(desk, 0, 0)));
        }
    }

    private Desk fullTrack() {
        Desk desk = new Desk();
        for (int i = 15; i >= 0; i--) {
            check.same("caption " + i, Desks.add(desk, 1, 0, i * 10, i * 10 + 5, "x"), 0);
        }
        return desk;
    }

    private void promise8AddAtTheMost() {
        Desk eight = fullTrack();
        refused(eight, 8, "the 17th", () -> Desks.add(eight, 1, 0, 300, 305, "x"));
        Desk four = fullTrack();
        refused(four, 4, "4 comes before 8", () -> Desks.add(four, 1, 0, 300, 305, "X"));
        Desk three = fullTrack();
        refused(three, 3, "3 comes before 8", () -> Desks.add(three, 1, 0, 0, 1, "x"));
        check.same("the other track has room", Desks.add(three, 0, 0, 300, 305, "x"), 0);
        check.same("the last one", three.caption(1, 15, 0), 150);
    }

    private void promise9Remove() {
        Desk desk = Desks.reading("a.10-20:a;a*30-40:bb;a!50-60:c|c", "b.10-20:d");
        noSuchCaption("remove", desk, desk::remove);
        check.same("remove the middle", desk.remove(0, 1), 2);
        captionsAre(desk, 0, "0/10-20:a 1/50-60:c|c");
        check.same("remove the last", desk.remove(0, 1), 1);
        check.same("remove the first", desk.remove(0, 0), 0);
        captionsAre(desk, 0, "");
        captionsAre(desk, 1, "0/10-20:d");
        check.fails("none is left", IndexOutOfBoundsException.class, () -> desk.remove(0, 0));
        check.same("changes", desk.number(12), 5);
        desk.undo();
        captionsAre(desk, 0, "0/10-20:a");
    }

    private void promise10Move() {
        Desk desk = Desks.reading("a.10-20:a;a*30-40:bb;a!50-60:c|c");
        noSuchCaption("move", desk, (track, caption) -> desk.move(track, caption, 0, 1));
        check.same("over its own frames", desk.move(0, 1, 20, 50), 1);
        check.same("behind all", desk.move(0, 0, 999, 1000), 2);
        captionsAre(desk, 0, "2/20-50:bb 1/50-60:c|c 0/999-1000:a");
        check.same("before all", desk.move(0, 1, 0, 20), 0);
        captionsAre(desk, 0, "1/0-20:c|c 2/20-50:bb 0/999-1000:a");
        check.same("to where it is", desk.move(0, 2, 999, 1000), 2);
        check.same("changes", desk.number(12), 5);
    }

    private void promise10MoveRefused() {
        Desk desk = Desks.reading("a.10-20:a;a*30-40:bb;b.0-999:x");
        refused(desk, 1, "before the film", () -> desk.move(0, 0, -1, 5));
        refused(desk, 1, "behind the film", () -> desk.move(0, 0, 990, 1001));
        refused(desk, 1, "1 comes before 2", () -> desk.move(0, 0, -1, -2));
        refused(desk, 1, "extremes", () -> desk.move(0, 0, Integer.MIN_VALUE, Integer.MIN_VALUE));
        refused(desk, 2, "no frames", () -> desk.move(0, 0, 35, 35));
        refused(desk, 2, "turned", () -> desk.move(0, 0, Integer.MAX_VALUE, Integer.MIN_VALUE));
        refused(desk, 3, "shares one frame", () -> desk.move(0, 0, 20, 31));
        refused(desk, 3, "over the other one", () -> desk.move(0, 1, 0, 100));
        check.same("touches", desk.move(0, 0, 20, 30), 0);
    }

    private void promise11Split() {
        Desk desk = Desks.reading("a*10-40:hello|you;a!100-104:a_bcdefgh;a.50-60:ab|c_d");
        captionsAre(desk, 0, "2/10-40:hello|you 0/50-60:ab|c_d 1/100-104:a_bcdefgh");
        check.same("at the new line", desk.split(0, 0, 5), 30 * 5 / 8);
        captionsAre(desk, 0, "2/10-28:hello 2/28-40:you 0/50-60:ab|c_d 1/100-104:a_bcdefgh");
        check.same("at a space, | is no load", desk.split(0, 2, 4), 10 * 3 / 4);
        check.same("at least 1 frame", desk.split(0, 4, 1), 1);
        captionsAre(desk, 0, "2/10-28:hello 2/28-40:you 0/50-57:ab|c 0/57-60:d 1/100-101:a 1/101-104:bcdefgh");
        check.same("changes", desk.number(12), 4);
        desk.undo();
        captionsAre(desk, 0, "2/10-28:hello 2/28-40:you 0/50-57:ab|c 0/57-60:d 1/100-104:a_bcdefgh");
        check.same("spaces are a load", Desks.reading("a.0-12:__a_b").split(0, 0, 3), 12 * 3 / 4);
    }

    private void promise11SplitRefused() {
        Desk desk = Desks.reading("a.10-11:a_b;a.20-40:_ab|_cd_;b.1-2:x");
        noSuchCaption("split", desk, (track, caption) -> desk.split(track, caption, 0));
        for (int wrong : new int[] {-1, 3, 24, Integer.MIN_VALUE, Integer.MAX_VALUE}) {
            check.fails("place " + wrong, IndexOutOfBoundsException.class, () -> desk.split(0, 0, wrong));
        }
        refused(desk, 4, "a letter", () -> desk.split(0, 0, 0));
        refused(desk, 2, "a single frame", () -> desk.split(0, 0, 1));
        refused(desk, 4, "nothing before", () -> desk.split(0, 1, 0));
        refused(desk, 4, "nothing behind", () -> desk.split(0, 1, 7));
        refused(desk, 4, "ends with a new line", () -> desk.split(0, 1, 4));
        check.same("begins with a space", desk.split(0, 1, 3), 20 * 3 / 7);
        for (int i = 3; i < 15; i++) {
            Desks.add(desk, 0, 0, i * 50, i * 50 + 1, "a_b");
        }
        refused(desk, 2, "2 before the track is full", () -> desk.split(0, 0, 1));
        Desks.add(desk, 0, 0, 900, 910, "a_b");
        refused(desk, 4, "4 comes before 8", () -> desk.split(0, 15, 0));
        refused(desk, 2, "2 comes before 8", () -> desk.split(0, 0, 1));
        refused(desk, 8, "the track is full", () -> desk.split(0, 15, 1));
        desk.remove(0, 0);
        check.same("room again", desk.split(0, 14, 1), 5);
    }

    private void promise12Merge() {
        Desk desk = Desks.reading("a*10-20:ab|c;a*25-30:de;a*30-31:f;b.10-20:x");
        check.same("the load then", desk.merge(0, 0), 6);
        captionsAre(desk, 0, "2/10-30:ab|c_de 2/30-31:f");
        check.same("no gap", desk.merge(0, 0), 8);
        captionsAre(desk, 0, "2/10-31:ab|c_de_f");
        captionsAre(desk, 1, "0/10-20:x");
        check.same("changes", desk.number(12), 3);
        Desk full = Desks.reading("a.0-10:abcdefghijk;a.10-20:abcdefghijkl");
        check.same("24 characters", full.merge(0, 0), 24);
    }

    private void promise12MergeRefused() {
        Desk desk = Desks.reading("a.10-20:a|b;a.25-30:c|d;a.36-40:e", "a!100-110:ab;b.1-2:x;b.3-4:y");
        noSuchCaption("merge", desk, desk::merge);
        refused(desk, 4, "two new lines", () -> desk.merge(0, 0));
        refused(desk, 7, "a gap of 6", () -> desk.merge(0, 1));
        refused(desk, 6, "6 comes before 7", () -> desk.merge(0, 2));
        refused(desk, 5, "the last one", () -> desk.merge(0, 3));
        check.same("the other track", desk.merge(1, 0), 3);
        desk.set(3, 4);
        refused(desk, 7, "7 comes before 4", () -> desk.merge(0, 0));
        desk.set(3, 6);
        check.same("the gap for merging", desk.merge(0, 1), 4);
        Desk full = Desks.reading("a.0-10:abcdefghijkl;a.10-20:abcdefghijkl");
        refused(full, 4, "25 characters", () -> full.merge(0, 0));
    }

    private void promise13Snap() {
        Desk desk = Desks.reading("a.10-40:x;a.100-200:y;c13;c37;c43;c104;c196", "b.97-197:z");
        noSuchCaption("snap", desk, desk::snap);
        check.same("both", desk.snap(0, 0), 3);
        captionsAre(desk, 0, "0/13-37:x 0/100-200:y");
        check.same("on cuts already", desk.snap(0, 0), 0);
        check.same("4 is more than the zone", desk.snap(0, 1), 0);
        check.same("only the end", desk.snap(1, 0), 2);
        captionsAre(desk, 1, "0/97-196:z");
        desk.set(1, 7);
        check.same("only the first frame", desk.snap(1, 0), 1);
        captionsAre(desk, 1, "0/104-196:z");
        desk.set(1, 0);
        check.same("nothing is loose with the zone 0", desk.snap(0, 1), 0);
        check.same("changes, also without a difference", desk.number(12), 8);
        Desk near = Desks.reading("a.50-60:x;c47;c53;c52;c62");
        check.same("the nearest", near.snap(0, 0), 3);
        captionsAre(near, 0, "0/52-62:x");
    }

    private void promise13SnapRefused() {
        Desk one = Desks.reading("a.10-14:x;c12");
        refused(one, 2, "both to one cut", () -> one.snap(0, 0));
        Desk on = Desks.reading("a.10-12:x;c10");
        refused(on, 2, "the end to where it begins", () -> on.snap(0, 0));
        Desk shared = Desks.reading("a.10-20:x;a.20-30:y;c22");
        refused(shared, 3, "into the next one", () -> shared.snap(0, 0));
        check.same("the next one itself", shared.snap(0, 1), 1);
        check.same("then there is room", shared.snap(0, 0), 2);
        Desk before = Desks.reading("a.10-20:x;a.20-30:y;c18;b.10-20:z");
        refused(before, 3, "into the former one", () -> before.snap(0, 1));
        check.same("the other track does not bind", before.snap(1, 0), 2);
    }

    private void promise14Fit() {
        Desk desk = Desks.reading("a.10-11:abcdefg;b!10-11:abcdefg;b*30-31:abcdefg");
        noSuchCaption("fit", desk, desk::fit);
        check.same("speech: 11.67 is 12", desk.fit(0, 0), 11);
        check.same("a sign: 6", desk.fit(1, 0), 5);
        check.same("a song: 9.33 is 10", desk.fit(1, 1), 9);
        captionsAre(desk, 0, "0/10-22:abcdefg");
        captionsAre(desk, 1, "1/10-16:abcdefg 2/30-40:abcdefg");
        check.same("enough already", desk.fit(0, 0), 0);
        desk.move(0, 0, 10, 100);
        check.same("more than enough", desk.fit(0, 0), 0);
        captionsAre(desk, 0, "0/10-100:abcdefg");
        check.same("changes, also without a difference", desk.number(12), 7);
    }

    private void promise14FitHeldBack() {
        Desk end = Desks.reading("a.995-996:abcdefg");
        check.same("the end of the film", end.fit(0, 0), 4);
        Desk next = Desks.reading("a.10-11:abcdefg;a.20-30:x;a.31-32:abcdefg;a.33-50:x");
        check.same("the least gap", next.fit(0, 0), 7);
        check.same("the gap is less already", next.fit(0, 2), 0);
        next.set(2, 9);
        check.same("the gap is less now", next.fit(0, 0), 0);
        next.set(2, 0);
        check.same("up to the next one", next.fit(0, 0), 2);
        captionsAre(next, 0, "0/10-20:abcdefg 0/20-30:x 0/31-32:abcdefg 0/33-50:x");
        Desk cut = Desks.reading("a.10-13:abcdefg;c12;c15;c14;b.10-12:abcdefg");
        check.same("the first cut that is not before its end", cut.fit(0, 0), 1);
        check.same("its end is a cut then", cut.fit(0, 0), 0);
        check.same("its end is a cut", cut.fit(1, 0), 0);
        cut.cut(14, false);
        check.same("the next cut", cut.fit(0, 0), 1);
        cut.cut(15, false);
        check.same("a cut before its end does not bind", cut.fit(0, 0), 7);
    }

    private void promise15Retime() {
        Desk desk = Desks.reading("a.10-20:x;a.20-40:y;b.15-30:z", "b.0-1:w");
        check.same("one track", desk.retime(0, 10, 110, 20, 130), 2);
        captionsAre(desk, 0, "0/110-130:x 0/130-170:y");
        captionsAre(desk, 1, "0/0-1:w 0/15-30:z");
        check.same("back, points turned", desk.retime(0, 130, 20, 110, 10), 2);
        captionsAre(desk, 0, "0/10-20:x 0/20-40:y");
        check.same("both tracks, one frame stays", desk.retime(-1, 0, 0, 1, 2), 4);
        captionsAre(desk, 1, "0/0-2:w 0/30-60:z");
        check.same("nothing is different", desk.retime(1, 5, 5, 9999, 9999), 0);
        check.same("the other track", desk.retime(1, 0, 940, 1000, 1940), 2);
        captionsAre(desk, 1, "0/940-942:w 0/970-1000:z");
        check.same("changes", desk.number(12), 7);
        check.same("no captions", new Desk().retime(-1, 9998, 0, 9999, 9999), 0);
    }

    private void promise15RetimeRounds() {
        Desk half = Desks.reading("a.1-3:x;a.4-7:y");
        check.same("halves up", half.retime(0, 0, 0, 2, 1), 2);
        captionsAre(half, 0, "0/1-2:x 0/2-4:y");
        Desk below = Desks.reading("a.1-3:x");
        check.same("halves up below the point", below.retime(0, 4, 10, 6, 11), 1);
        captionsAre(below, 0, "0/9-10:x");
        Desk third = Desks.reading("a.1-5:x");
        check.same("thirds", third.retime(0, 0, 0, 3, 2), 1);
        captionsAre(third, 0, "0/1-3:x");
        Desk edge = Desks.reading("a.1-3:x");
        check.same("-0.5 becomes 0", edge.retime(0, 2, 0, 4, 1), 1);
        captionsAre(edge, 0, "0/0-1:x");
    }

    private void promise15RetimeWrong() {
        Desk desk = Desks.reading("a.10-20:x;b.30-31:y");
        refused(desk, 1, "before the film", () -> desk.retime(0, 11, 0, 21, 10));
        refused(desk, 1, "behind the film", () -> desk.retime(0, 10, 991, 20, 1001));
        refused(desk, 2, "no frames left", () -> desk.retime(1, 0, 0, 9999, 100));
        refused(desk, 1, "1 in track 0, 2 in track 1", () -> desk.retime(-1, 20, 0, 24, 1));
        check.same("track 0 alone", desk.retime(0, 0, 0, 100, 50), 1);
        Desk other = Desks.reading("b.10-20:x;a.30-31:y");
        refused(other, 1, "2 in track 0, 1 in track 1", () -> other.retime(-1, 20, 0, 24, 1));
        refused(other, 1, "very far", () -> other.retime(-1, 9998, 0, 9999, 9999));
        refused(other, 1, "very far behind", () -> other.retime(-1, 0, 0, 1, 9999));
        for (int wrong : new int[] {-2, 2, Integer.MIN_VALUE, Integer.MAX_VALUE}) {
            check.fails("track " + wrong, IndexOutOfBoundsException.class, () -> desk.retime(wrong, 0, 0, 0, 0));
        }
        int[][] points = {{-1, 0, 5, 5}, {0, -1, 5, 5}, {0, 0, -1, -1}, {0, 0, 5, -1}, {10000, 5, 0, 0},
            {5, 10000, 0, 0}, {0, 0, 10000, 5}, {0, 0, 5, 10000}, {5, 0, 5, 10}, {0, 5, 10, 5}, {5, 5, 5, 5},
            {0, 10, 10, 0}, {10, 0, 0, 10}, {Integer.MIN_VALUE, 0, Integer.MAX_VALUE, 1}};
        for (int[] p : points) {
            check.fails("points " + java.util.Arrays.toString(p), IllegalArgumentException.class,
                    () -> desk.retime(-1, p[0], p[1], p[2], p[3]));
        }
    }
}
