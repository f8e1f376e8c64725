/** The boundary cases of retiming: promise 15, sentence by sentence. */
final class RetimeEdgesTest {
    private static final Run FED = desk -> {
        Desks.busy(desk);
        Desks.feed(desk, "q_r");
    };

    private final Check check = new Check("RetimeEdgesTest");

    public static void main(String[] args) {
        RetimeEdgesTest test = new RetimeEdgesTest();
        test.tracks();
        test.framesOfThePoints();
        test.differentFrames();
        test.theSameDirection();
        test.exceptionsInTheirOrder();
        test.halvesUp();
        test.nearestInteger();
        test.pointsInEitherOrder();
        test.firstFramesAndEndsAlone();
        test.beforeTheFilm();
        test.behindTheFilm();
        test.noFrames();
        test.reasonsInTheirOrder();
        test.allOrNone();
        test.captionsThatAreDifferent();
        test.captionsStayInOrder();
        test.check.end();
    }

    private static Run retiming(int track, int from, int to, int from2, int to2) {
        return desk -> desk.retime(track, from, to, from2, to2);
    }

    private void tracks() {
        check.about("the track, or -1 for both; throws IndexOutOfBoundsException if track is not from -1 to 1");
        for (int track : new int[] {-2, 2, -3, 3, Integer.MIN_VALUE, Integer.MAX_VALUE}) {
            check.leaves("retime of " + track, IndexOutOfBoundsException.class, FED, retiming(track, 0, 1, 100, 101));
        }
        Run run = Desks.texts("a.10-20:x;b.30-40:y;b.50-60:z");
        int[] due = {3, 1, 2};
        String[] captions = {"0/11-21:x | 0/31-41:y 0/51-61:z", "0/11-21:x | 0/30-40:y 0/50-60:z",
            "0/10-20:x | 0/31-41:y 0/51-61:z"};
        for (int track = -1; track <= 1; track++) {
            check.same("retime of " + track, run.made().retime(track, 0, 1, 100, 101), due[track + 1]);
            Desk desk = run.then(retiming(track, 0, 1, 100, 101)).made();
            check.sameText("then", Desks.captions(desk, 0) + " | " + Desks.captions(desk, 1), captions[track + 1]);
        }
    }

    private void framesOfThePoints() {
        check.about("from: a frame, 0 to 9999; to: what it becomes, 0 to 9999 [...]");
        Run none = desk -> { };
        int[][] right = {{0, 0, 9999, 9999}, {9999, 9999, 0, 0}, {0, 0, 1, 1}, {9998, 9998, 9999, 9999}, {0, 9998, 9999, 9999},
            {9998, 0, 9999, 9999}, {0, 0, 1, 9999}, {1, 0, 2, 9999}};
        for (int[] p : right) {
            check.same("retime " + java.util.Arrays.toString(p), none.made().retime(-1, p[0], p[1], p[2], p[3]), 0);
        }
        for (int wrong : new int[] {-1, 10000, -2, 10001, Integer.MIN_VALUE, Integer.MAX_VALUE}) {
            for (int which = 0; which < 4; which++) {
                // The points differ in the same direction, so that nothing but the range is wrong.
                int edge = wrong < 0 ? 0 : 9999;
                int[] p = {5000, 5000, 5000, 5000};
                p[which] = wrong;
                p[which ^ 1] = edge;
                check.leaves("retime " + java.util.Arrays.toString(p), IllegalArgumentException.class, FED,
                        retiming(-1, p[0], p[1], p[2], p[3]));
                p[which] = edge;
                check.same("retime " + java.util.Arrays.toString(p), none.made().retime(-1, p[0], p[1], p[2], p[3]), 0);
            }
        }
    }

    private void differentFrames() {
        check.about("both frames or what they become are the same");
        for (int frame : new int[] {0, 500, 9999}) {
            check.leaves("both frames", IllegalArgumentException.class, FED, retiming(0, frame, 10, frame, 20));
            check.leaves("what they become", IllegalArgumentException.class, FED, retiming(0, 10, frame, 20, frame));
            check.leaves("both", IllegalArgumentException.class, FED, retiming(0, frame, frame, frame, frame));
        }
        Run one = Desks.texts("a.500-501:x");
        check.same("one frame apart", one.made().retime(0, 500, 600, 501, 601), 1);
        check.same("one frame apart, turned", one.made().retime(0, 501, 601, 500, 600), 1);
        check.same("at the least frames", one.made().retime(0, 0, 0, 1, 1), 0);
        check.same("at the greatest frames", one.made().retime(0, 9999, 9999, 9998, 9998), 0);
    }

    private void theSameDirection() {
        check.about("these differ in the same direction");
        int[][] wrong = {{10, 20, 20, 19}, {10, 20, 11, 0}, {20, 10, 10, 20}, {20, 10, 19, 11}, {0, 9999, 9999, 0}, {9999, 0, 0, 9999}};
        for (int[] p : wrong) {
            check.leaves("retime " + java.util.Arrays.toString(p), IllegalArgumentException.class, FED,
                    retiming(1, p[0], p[1], p[2], p[3]));
        }
        Run one = Desks.texts("a.10-20:x");
        check.same("both later", one.made().retime(0, 10, 20, 11, 21), 1);
        check.same("both earlier", one.made().retime(0, 20, 20, 19, 19), 0);
    }

    private void exceptionsInTheirOrder() {
        check.about("If several exceptions apply, the one that is documented first is thrown.");
        check.leaves("no track, no points", IndexOutOfBoundsException.class, FED, retiming(2, 0, 0, 0, 0));
        check.leaves("no track, refused", IndexOutOfBoundsException.class, FED, retiming(-2, 200, 0, 201, 1));
        check.leaves("no points, refused", IllegalArgumentException.class, FED, retiming(0, 200, 0, 200, 1));
        check.refuses("refused", 1, FED, retiming(0, 200, 0, 201, 1));
        check.fails("no points are no refusal", java.util.NoSuchElementException.class,
                () -> Run.failing(retiming(0, 5, 5, 5, 5)).made().refusal(true));
    }

    /** The caption must be one that becomes the frames first and end. */
    private void becomes(String caption, int[] p, int first, int end) {
        Run run = Desks.texts("a." + caption + ":x", "b." + caption + ":y");
        Desk desk = run.then(retiming(-1, p[0], p[1], p[2], p[3])).made();
        String what = caption + " by " + java.util.Arrays.toString(p);
        check.sameText(what, Desks.captions(desk, 0), "0/" + first + "-" + end + ":x");
        check.sameText(what, Desks.captions(desk, 1), "0/" + first + "-" + end + ":y");
    }

    private void halvesUp() {
        check.about("rounded to the nearest integer, halves up");
        int[] half = {0, 0, 2, 1};
        becomes("1-3", half, 1, 2);
        becomes("2-4", half, 1, 2);
        becomes("0-2", half, 0, 1);
        becomes("3-5", half, 2, 3);
        becomes("4-7", half, 2, 4);
        // Behind the points, before them, and where the difference is below zero: a half goes up, not away from zero.
        int[] far = {100, 50, 102, 51};
        becomes("99-101", far, 50, 51);
        becomes("97-99", far, 49, 50);
        becomes("98-103", far, 49, 52);
        int[] down = {5, 2, 7, 3};
        becomes("0-2", down, 0, 1);
        becomes("2-4", down, 1, 2);
        int[] threeHalves = {0, 0, 2, 3};
        becomes("1-3", threeHalves, 2, 5);
        becomes("0-1", threeHalves, 0, 2);
        int[] threeHalvesAfter = {10, 100, 12, 103};
        becomes("7-9", threeHalvesAfter, 96, 99);
    }

    private void nearestInteger() {
        check.about("rounded to the nearest integer, halves up");
        int[] thirds = {0, 0, 3, 2};
        becomes("1-5", thirds, 1, 3);
        becomes("2-4", thirds, 1, 3);
        int[] quarters = {0, 0, 4, 1};
        becomes("1-6", quarters, 0, 2);
        becomes("2-6", quarters, 1, 2);
        becomes("5-7", quarters, 1, 2);
        int[] tenths = {0, 0, 10, 1};
        becomes("4-5", tenths, 0, 1);
        becomes("14-15", tenths, 1, 2);
        becomes("0-994", tenths, 0, 99);
        becomes("0-995", tenths, 0, 100);
    }

    private void pointsInEitherOrder() {
        check.about("where the frame u becomes v and the frame x becomes y");
        becomes("10-20", new int[] {10, 30, 20, 50}, 30, 50);
        becomes("10-20", new int[] {20, 50, 10, 30}, 30, 50);
        becomes("99-101", new int[] {102, 51, 100, 50}, 50, 51);
        becomes("97-99", new int[] {102, 51, 100, 50}, 49, 50);
        becomes("0-1000", new int[] {0, 0, 9999, 9999}, 0, 1000);
        becomes("0-1000", new int[] {9999, 999, 0, 0}, 0, 100);
        becomes("10-20", new int[] {0, 9, 1, 10}, 19, 29);
        becomes("600-700", new int[] {9998, 9498, 9999, 9499}, 100, 200);
    }

    private void firstFramesAndEndsAlone() {
        check.about("Retiming does this to the first frames and the ends of captions.");
        Run run = Desks.texts("a.10-20:a_b;a!20-31:c|d;b*15-30:e;c20;c40");
        Desk desk = run.then(retiming(-1, 0, 10, 100, 210)).made();
        check.sameText("track 0", Desks.captions(desk, 0), "0/30-50:a_b 1/50-72:c|d");
        check.sameText("track 1", Desks.captions(desk, 1), "2/40-70:e");
        check.same("the cuts stay", desk.shot(19) * 1000 + desk.shot(20) * 100 + desk.shot(39) * 10 + desk.shot(40), 112);
        check.same("the length stays", desk.number(6), 1000);
        check.sameText("undone", Whole.film(run.then(retiming(-1, 0, 10, 100, 210)).then(Desk::undo)), Whole.film(run));
    }

    private void beforeTheFilm() {
        check.about("1, a caption would begin before frame 0");
        Run one = Desks.texts("a.10-20:x");
        check.same("to the frame 0", one.made().retime(0, 10, 0, 11, 1), 1);
        check.same("to the frame 1", one.made().retime(0, 10, 1, 11, 2), 1);
        check.refuses("to the frame -1", 1, one, retiming(0, 11, 0, 12, 1));
        check.refuses("to the frame -2", 1, one, retiming(0, 12, 0, 13, 1));
        // By the points (13, 1) and (15, 2) the frame 10 becomes -0.5, and 9 becomes -1; by thirds -0.33 and -0.67.
        becomes("10-20", new int[] {13, 1, 15, 2}, 0, 5);
        becomes("10-20", new int[] {11, 0, 14, 1}, 0, 3);
        check.refuses("to -1 exactly", 1, Desks.texts("a.9-20:x"), retiming(0, 13, 1, 15, 2));
        check.refuses("to -0.67", 1, Desks.texts("a.9-20:x"), retiming(0, 11, 0, 14, 1));
        check.refuses("far before it", 1, one, retiming(0, 9998, 0, 9999, 9999));
        check.refuses("both frames", 1, one, retiming(-1, 30, 0, 31, 1));
    }

    private void behindTheFilm() {
        check.about("1, a caption would [...] end behind the film");
        Run one = Desks.texts("a.10-20:x");
        check.same("to the length", one.made().retime(0, 10, 990, 11, 991), 1);
        check.same("one frame before it", one.made().retime(0, 10, 989, 11, 990), 1);
        check.refuses("one frame behind it", 1, one, retiming(0, 10, 991, 11, 992));
        // Thirds: 1000.33 is the length still, and 1000.67 is not; a half is not either.
        becomes("10-19", new int[] {0, 994, 3, 995}, 997, 1000);
        becomes("10-19", new int[] {18, 1000, 21, 1001}, 997, 1000);
        check.refuses("1000.67", 1, one, retiming(0, 18, 1000, 21, 1001));
        check.refuses("1000.5", 1, one, retiming(0, 19, 1000, 21, 1001));
        check.refuses("begins behind it too", 1, one, retiming(0, 10, 9000, 20, 9010));
        check.refuses("far behind it", 1, one, retiming(0, 0, 0, 1, 9999));
        Run longest = desk -> {
            desk.film(9999);
            Desks.add(desk, 1, 0, 0, 9999, "x");
        };
        check.same("a whole film stays", longest.made().retime(-1, 0, 0, 9999, 9999), 0);
        check.refuses("a whole film, twice as long", 1, longest, retiming(-1, 0, 0, 1, 2));
        check.same("a whole film, half as long", longest.made().retime(-1, 0, 0, 2, 1), 1);
    }

    private void noFrames() {
        check.about("2, a caption would not begin before its end");
        check.refuses("1.75 and 2", 2, Desks.texts("a.7-8:x"), retiming(0, 0, 0, 4, 1));
        check.refuses("0.5 and 1", 2, Desks.texts("a.1-2:x"), retiming(0, 0, 0, 2, 1));
        check.same("1 and 1.5", Desks.reading("a.2-3:x").retime(0, 0, 0, 2, 1), 1);
        check.refuses("10 frames in one", 2, Desks.texts("a.10-20:x"), retiming(0, 0, 0, 100, 1));
        check.same("over the border of a frame", Desks.reading("a.49-50:x").retime(0, 0, 0, 100, 1), 1);
        check.refuses("beside it", 2, Desks.texts("a.50-51:x"), retiming(0, 0, 0, 100, 1));
        check.refuses("before it", 2, Desks.texts("a.48-49:x"), retiming(0, 0, 0, 100, 1));
        check.refuses("all of the film", 2, Desks.texts("a.0-1000:x"), retiming(0, 0, 0, 9999, 1));
    }

    private void reasonsInTheirOrder() {
        check.about("where several apply, the one with the lowest number counts");
        int[] tenth = {20, 0, 30, 1};
        String[] texts = {"a.4-10:x;a.40-41:y", "a.30-31:x;a.4-6:y", "a.4-10:x;b.40-41:y", "b.4-10:x;a.40-41:y", "a.4-5:x",
            "a.41-42:x;a.43-44:y;b.1-2:z"};
        for (String text : texts) {
            check.refuses(text, 1, Desks.texts(text), retiming(-1, tenth[0], tenth[1], tenth[2], tenth[3]));
        }
        for (String text : new String[] {"a.40-41:x", "b.40-41:x", "a.40-50:x;b.61-62:y", "a.61-62:x;b.40-50:y", "a.21-22:x;a.30-60:y"}) {
            check.refuses(text, 2, Desks.texts(text), retiming(-1, tenth[0], tenth[1], tenth[2], tenth[3]));
        }
        check.refuses("before the film, then behind it", 1, Desks.texts("a.0-1:x;a.900-901:y"), retiming(0, 5, 0, 6, 9));
        check.refuses("no frames, then behind the film", 1, Desks.texts("a.0-1:x;a.20-30:y").then(desk -> desk.film(100)),
                retiming(0, 0, 99, 9, 100));
    }

    private void allOrNone() {
        check.about("A method that throws an exception leaves the state unchanged");
        Run run = Desks.texts("a.10-20:x;a.30-40:y;a.980-990:z", "b.10-20:v;b.30-31:w");
        check.refuses("the last one alone", 1, run, retiming(0, 0, 11, 1, 12));
        check.same("it just fits", run.made().retime(0, 0, 10, 1, 11), 3);
        check.refuses("one of both tracks", 1, run, retiming(-1, 0, 11, 1, 12));
        check.same("the other track alone", run.made().retime(1, 0, 11, 1, 12), 2);
        check.refuses("the second one of track 1 alone", 2, run, retiming(1, 0, 0, 4, 1));
        check.same("track 0 alone", run.made().retime(0, 0, 0, 4, 1), 3);
        check.refuses("both tracks by a quarter", 2, run, retiming(-1, 0, 0, 4, 1));
    }

    private void captionsThatAreDifferent() {
        check.about("Returns the number of captions whose first frames or ends are different then.");
        Run run = Desks.texts("a.10-20:x;a.20-25:y;a.40-41:z", "b.0-10:v;b.60-70:w");
        check.same("all stay", run.made().retime(-1, 5, 5, 6, 6), 0);
        check.same("is a change, also if nothing is different", run.then(retiming(-1, 5, 5, 6, 6)).made().number(12), 3);
        check.same("all of them", run.made().retime(-1, 0, 1, 1, 2), 5);
        // By these points 9 becomes 9.47, and 10 becomes 10.53.
        check.same("a first frame that stays", Desks.reading("b.0-10:v").retime(1, 0, 0, 19, 20), 1);
        check.same("both stay", Desks.reading("b.0-9:v").retime(1, 0, 0, 19, 20), 0);
        check.same("an end that stays", Desks.reading("b.9-19:v").retime(1, 19, 19, 38, 39), 1);
        check.same("both stay", Desks.reading("b.10-19:v").retime(1, 19, 19, 38, 39), 0);
        check.same("two of three", run.made().retime(0, 0, 0, 50, 51), 2);
        check.same("of no captions", new Desk().retime(-1, 0, 1, 1, 2), 0);
        check.same("of no captions in this track", Desks.reading("a.1-2:x").retime(1, 0, 1, 1, 2), 0);
    }

    private void captionsStayInOrder() {
        check.about("for the reasons 1 or 2");
        Run run = desk -> {
            for (int i = 0; i < 16; i++) {
                Desks.add(desk, i % 2, 0, i * 3, i * 3 + 6, "x");
            }
        };
        for (int[] p : new int[][] {{0, 0, 2, 1}, {1, 1, 4, 3}, {3, 2, 9, 6}, {10, 8, 40, 32}, {7, 100, 9, 107}}) {
            Desk desk = run.then(retiming(-1, p[0], p[1], p[2], p[3])).made();
            for (int track = 0; track <= 1; track++) {
                for (int i = 1; i < 8; i++) {
                    check.same("no frames between", desk.caption(track, i, 10), 0);
                }
            }
        }
    }
}
