import java.util.NoSuchElementException;

/** The boundary cases of reading, step, problems and what is told: promises 16 to 21, sentence by sentence. */
final class ToldEdgesTest {
    private static final Run FED = desk -> {
        Desks.busy(desk);
        Desks.feed(desk, "q_r");
    };
    private static final int NEEDS = 4;
    private static final int PROBLEMS = 5;
    private static final int PARTNER = 6;
    private static final int CUTS = 9;
    private static final int GAP = 10;
    private static final int SHARED = 11;

    private final Check check = new Check("ToldEdgesTest");

    public static void main(String[] args) {
        ToldEdgesTest test = new ToldEdgesTest();
        test.framesThatSpeechNeeds();
        test.framesThatASongNeeds();
        test.framesThatASignNeeds();
        test.fewerFramesThanItNeeds();
        test.looseFirstFrames();
        test.looseEnds();
        test.aCutIsNotLoose();
        test.tightCaptions();
        test.noFramesBetweenIsNotTight();
        test.wideLines();
        test.inStepByTheTolerance();
        test.outOfStep();
        test.sumOfTheProblems();
        test.partnerByFrames();
        test.partnerOfAPartner();
        test.cutsBetween();
        test.framesBefore();
        test.whatOfACaption();
        test.letters();
        test.shownFrames();
        test.framesAndLoadOfATrack();
        test.captionsOfATrackWithProblems();
        test.captionsOverACut();
        test.captionsThatCouldBeMerged();
        test.whatOfATrack();
        test.theFastest();
        test.theFastestExactly();
        test.theSpeed();
        test.asking();
        test.check.end();
    }

    private static Run of(String kind, int load) {
        return Desks.texts("a" + kind + "100-200:" + "x".repeat(load));
    }

    private void needs(String kind, int[][] due) {
        for (int[] row : due) {
            Desk desk = of(kind, row[1]).made();
            desk.set(0, row[0]);
            check.same("a load of " + row[1] + " at the speed " + row[0], desk.caption(0, 0, NEEDS), row[2]);
        }
    }

    private void framesThatSpeechNeeds() {
        check.about("speech as many as 25 times its load divided by the speed [...] rounded up");
        needs(".", new int[][] {{15, 1, 2}, {15, 2, 4}, {15, 3, 5}, {15, 4, 7}, {15, 5, 9}, {15, 6, 10}, {15, 7, 12}, {15, 23, 39},
            {15, 24, 40}, {5, 1, 5}, {5, 24, 120}, {6, 1, 5}, {6, 24, 100}, {25, 1, 1}, {25, 24, 24}, {24, 1, 2}, {24, 24, 25},
            {26, 1, 1}, {26, 24, 24}, {26, 13, 13}, {29, 24, 21}, {30, 1, 1}, {30, 6, 5}, {30, 7, 6}, {30, 24, 20}});
        check.same("15 at first", of(".", 3).made().caption(0, 0, NEEDS), 5);
        Desk lines = Desks.reading("a.100-200:ab|c;b.100-200:_|_");
        check.same("a new line is no load", lines.caption(0, 0, NEEDS), 5);
        check.same("a space is", lines.caption(1, 0, NEEDS), 4);
    }

    private void framesThatASongNeeds() {
        check.about("song 20 times its load divided by the speed, rounded up");
        needs("*", new int[][] {{15, 1, 2}, {15, 2, 3}, {15, 3, 4}, {15, 4, 6}, {15, 6, 8}, {15, 7, 10}, {15, 24, 32}, {5, 1, 4},
            {5, 24, 96}, {19, 1, 2}, {20, 1, 1}, {20, 24, 24}, {21, 1, 1}, {21, 21, 20}, {21, 22, 21}, {30, 3, 2}, {30, 4, 3},
            {30, 24, 16}});
    }

    private void framesThatASignNeeds() {
        check.about("a sign half of what speech needs, rounded up");
        needs("!", new int[][] {{15, 1, 1}, {15, 2, 2}, {15, 3, 3}, {15, 4, 4}, {15, 5, 5}, {15, 6, 5}, {15, 7, 6}, {15, 23, 20},
            {15, 24, 20}, {5, 1, 3}, {5, 2, 5}, {5, 24, 60}, {25, 1, 1}, {25, 2, 1}, {25, 3, 2}, {30, 1, 1}, {30, 6, 3}, {30, 7, 3},
            {30, 24, 10}});
        check.about("The frames that speech needs are rounded up before they are halved for a sign.");
        needs("!", new int[][] {{24, 24, 13}, {26, 2, 1}, {26, 3, 2}, {29, 7, 4}, {29, 5, 3}, {15, 14, 12}});
    }

    private void problem(String what, Run run, int due) {
        check.same(what, run.made().caption(0, 0, PROBLEMS), due);
    }

    /** A sign of these frames, which is neither loose nor out of step. */
    private static Run sign(int first, int end, String text) {
        return Desks.texts("a!" + first + "-" + end + ":" + text);
    }

    private void fewerFramesThanItNeeds() {
        check.about("1, it is shown for fewer frames than it needs");
        for (int load : new int[] {1, 3, 7, 16}) {
            int needs = sign(100, 200, "x".repeat(load)).made().caption(0, 0, NEEDS);
            for (int frames = Math.max(1, needs - 2); frames <= needs + 2; frames++) {
                Run run = sign(100, 100 + frames, "x".repeat(load));
                problem(frames + " of " + needs, run, frames < needs ? 1 : 0);
                check.same("track(0, 2)", run.made().track(0, 2), frames < needs ? 1 : 0);
            }
        }
        Run slow = sign(100, 106, "abcdefg");
        problem("at the speed 15", slow, 0);
        problem("at the speed 14", slow.then(desk -> desk.set(0, 14)), 1);
        problem("speech", Desks.texts("a.100-111:abcdefg;b.100-111:x"), 1);
        problem("speech for one frame more", Desks.texts("a.100-112:abcdefg;b.100-112:x"), 0);
        problem("a song", Desks.texts("a*100-109:abcdefg;b.100-109:x"), 1);
        problem("a song for one frame more", Desks.texts("a*100-110:abcdefg;b.100-110:x"), 0);
    }

    private void looseFirstFrames() {
        check.about("2, its first frame is loose [...] at most the zone, which is 0 to 12, at first 3");
        for (int zone : new int[] {0, 1, 3, 11, 12}) {
            for (int away : new int[] {1, 2, 3, 4, 10, 11, 12, 13}) {
                for (int cut : new int[] {100 - away, 100 + away}) {
                    Run run = sign(100, 200, "x").then(Desks.texts("c" + cut)).then(desk -> desk.set(1, zone));
                    problem("a cut at " + cut + ", zone " + zone, run, away <= zone ? 2 : 0);
                    check.same("track(0, 3)", run.made().track(0, 3), away <= zone ? 1 : 0);
                }
            }
        }
        problem("3 at first", sign(100, 200, "x").then(Desks.texts("c97")), 2);
        problem("4 at first", sign(100, 200, "x").then(Desks.texts("c96")), 0);
        problem("the frame 0", sign(0, 200, "x").then(Desks.texts("c1")), 2);
        problem("the frame 0 at the zone", sign(0, 200, "x").then(Desks.texts("c3")), 2);
        problem("the frame 0 behind the zone", sign(0, 200, "x").then(Desks.texts("c4")), 0);
        problem("without cuts", sign(0, 200, "x").then(desk -> desk.set(1, 12)), 0);
    }

    private void looseEnds() {
        check.about("4, its end is loose [...] at most the zone, which is 0 to 12, at first 3");
        for (int zone : new int[] {0, 1, 3, 11, 12}) {
            for (int away : new int[] {1, 2, 3, 4, 10, 11, 12, 13}) {
                for (int cut : new int[] {200 - away, 200 + away}) {
                    Run run = sign(100, 200, "x").then(Desks.texts("c" + cut)).then(desk -> desk.set(1, zone));
                    problem("a cut at " + cut + ", zone " + zone, run, away <= zone ? 4 : 0);
                    check.same("track(0, 3)", run.made().track(0, 3), away <= zone ? 1 : 0);
                }
            }
        }
        problem("the end of the film", sign(100, 1000, "x").then(Desks.texts("c999")), 4);
        problem("the end of the film at the zone", sign(100, 1000, "x").then(Desks.texts("c997")), 4);
        problem("the end of the film behind the zone", sign(100, 1000, "x").then(Desks.texts("c996")), 0);
        Run both = sign(100, 103, "x").then(Desks.texts("c101"));
        problem("both", both, 6);
        check.same("one caption with the problems 2 or 4", both.made().track(0, 3), 1);
    }

    private void aCutIsNotLoose() {
        check.about("A frame is loose if it is no cut, and there is a cut that differs from it");
        problem("both are cuts", sign(100, 200, "x").then(Desks.texts("c100;c200")), 0);
        problem("and others are near", sign(100, 200, "x").then(Desks.texts("c100;c200;c99;c101;c199;c201")), 0);
        problem("the end is near", sign(100, 200, "x").then(Desks.texts("c100;c201")), 4);
        problem("the first frame is near", sign(100, 200, "x").then(Desks.texts("c200;c101")), 2);
        problem("taken away", sign(100, 200, "x").then(Desks.texts("c100;c99;u100")), 2);
        problem("made", sign(100, 200, "x").then(Desks.texts("c99", "c100")), 0);
    }

    private void tightCaptions() {
        check.about("8, it is tight, that is, there are frames between it and the caption before it in its track, but fewer than the least gap");
        for (int least = 0; least <= 9; least++) {
            int set = least;
            for (int gap : new int[] {0, 1, least - 1, least, least + 1}) {
                if (gap < 0) {
                    continue;
                }
                Run run = Desks.texts("a!100-110:x;a!" + (110 + gap) + "-150:y").then(desk -> desk.set(2, set));
                int due = gap > 0 && gap < least ? 8 : 0;
                check.same("a gap of " + gap + ", least " + least, run.made().caption(0, 1, PROBLEMS), due);
                check.same("the caption before it", run.made().caption(0, 0, PROBLEMS), 0);
                check.same("track(0, 4)", run.made().track(0, 4), due / 8);
            }
        }
        check.same("2 at first: 1", Desks.reading("a!100-110:x;a!111-150:y").caption(0, 1, PROBLEMS), 8);
        check.same("2 at first: 2", Desks.reading("a!100-110:x;a!112-150:y").caption(0, 1, PROBLEMS), 0);
        problem("the first one has none before it", sign(1, 9, "x"), 0);
        check.same("of the other track", Desks.reading("a!100-110:x;b!111-150:y").caption(1, 0, PROBLEMS), 0);
    }

    private void noFramesBetweenIsNotTight() {
        check.about("No frames between two captions is not tight.");
        for (int least : new int[] {0, 1, 2, 9}) {
            Run run = Desks.texts("a!100-110:x;a!110-150:y").then(desk -> desk.set(2, least));
            check.same("least gap " + least, run.made().caption(0, 1, PROBLEMS), 0);
            check.same("one frame", run.then(desk -> desk.move(0, 1, 111, 150)).made().caption(0, 1, PROBLEMS), least > 1 ? 8 : 0);
        }
    }

    private void wideLines() {
        check.about("16, one of its lines has more characters than the greatest width, which is 5 to 24, at first 16");
        for (int width : new int[] {5, 6, 15, 16, 22, 23, 24}) {
            for (int size : new int[] {width - 1, width, width + 1}) {
                if (size > 24) {
                    continue;
                }
                wide("x".repeat(size), width, size > width);
                if (size <= 22) {
                    wide("x".repeat(size) + "|y", width, size > width);
                    wide("y|" + "x".repeat(size), width, size > width);
                    wide("_".repeat(size) + "|y", width, size > width);
                }
            }
        }
        problem("16 at first", sign(0, 100, "x".repeat(16)), 0);
        problem("17 at first", sign(0, 100, "x".repeat(17)), 16);
        problem("two lines of 11", sign(0, 100, "abcdefghijk|abcdefghijk"), 0);
        problem("two lines of 11 in 10", sign(0, 100, "abcdefghijk|abcdefghijk").then(desk -> desk.set(5, 10)), 16);
    }

    private void wide(String text, int width, boolean isWide) {
        Run run = sign(0, 100, text).then(desk -> desk.set(5, width));
        problem(text + " in " + width, run, isWide ? 16 : 0);
        check.same("track(0, 5)", run.made().track(0, 5), isWide ? 1 : 0);
    }

    private void inStepByTheTolerance() {
        check.about("the first frames of both differ by at most the tolerance, and so do their ends");
        for (int tolerance : new int[] {0, 1, 5, 24, 25}) {
            for (int away : new int[] {0, 1, tolerance - 1, tolerance, tolerance + 1}) {
                if (away < 0) {
                    continue;
                }
                boolean isIn = away <= tolerance;
                inStep(100 - away, 200, tolerance, isIn);
                inStep(100 + away, 200, tolerance, isIn);
                inStep(100, 200 - away, tolerance, isIn);
                inStep(100, 200 + away, tolerance, isIn);
                inStep(100 + away, 200 + away, tolerance, isIn);
                inStep(100 - away, 200 + away, tolerance, isIn);
            }
            inStep(100 + tolerance, 200 + tolerance + 1, tolerance, false);
            inStep(100 - tolerance - 1, 200 - tolerance, tolerance, false);
        }
        problem("5 at first", Desks.texts("a.100-200:x;b.105-195:y"), 0);
        problem("6 at first", Desks.texts("a.100-200:x;b.106-200:y"), 32);
    }

    private void inStep(int first, int end, int tolerance, boolean isDue) {
        Run run = Desks.texts("a.100-200:x;b*" + first + "-" + end + ":y").then(desk -> desk.set(4, tolerance));
        String what = first + "-" + end + ", tolerance " + tolerance;
        problem(what, run, isDue ? 0 : 32);
        check.same(what + ": the partner", run.made().caption(1, 0, PROBLEMS), isDue ? 0 : 32);
        check.same(what + ": track(1, 6)", run.made().track(1, 6), isDue ? 0 : 1);
        check.same(what + ": number(11)", run.made().number(11), isDue ? 0 : 2);
    }

    private void outOfStep() {
        check.about("32, it is no sign and not in step");
        String[] kinds = {".", "!", "*"};
        for (String kind : kinds) {
            int due = kind.equals("!") ? 0 : 32;
            problem("without a partner " + kind, Desks.texts("a" + kind + "100-200:x"), due);
            problem("not in step " + kind, Desks.texts("a" + kind + "100-200:x;b.100-206:y"), due);
            problem("it touches " + kind, Desks.texts("a" + kind + "100-200:x;b.99-100:y;b.200-201:z"), due);
            problem("in step " + kind, Desks.texts("a" + kind + "100-200:x;b!100-205:y"), 0);
        }
        check.about("It is in step if it has a partner");
        for (int tolerance : new int[] {0, 1, 5, 25}) {
            problem("near the frame 0 without a partner", Desks.texts("a.0-2:x").then(desk -> desk.set(4, tolerance)), 32);
            problem("near the frame 0, a partner far off", Desks.texts("a.0-2:x;b.1-90:y").then(desk -> desk.set(4, tolerance)), 32);
        }
        // With a great tolerance one frame that is shared is enough, and none is not.
        Run one = Desks.texts("a.100-110:x;b.109-119:y").then(desk -> desk.set(4, 25));
        problem("one frame is shared", one, 0);
        problem("no frame is shared", one.then(desk -> desk.move(1, 0, 110, 120)), 32);
    }

    private void sumOfTheProblems() {
        check.about("which are told as the sum of their numbers");
        Run all = Desks.texts("a.100-110:x;a.111-120:abcdefghijklmnopqrs", "c112;c119");
        check.same("all problems", all.made().caption(0, 1, PROBLEMS), 63);
        check.same("all but the last", all.then(Desks.texts("b.111-120:x")).made().caption(0, 1, PROBLEMS), 31);
        check.same("all but the first frame", all.then(Desks.texts("c111")).made().caption(0, 1, PROBLEMS), 61);
        check.same("all but the end", all.then(Desks.texts("c120")).made().caption(0, 1, PROBLEMS), 59);
        check.same("all but the gap", all.then(desk -> desk.move(0, 0, 100, 111)).made().caption(0, 1, PROBLEMS), 55);
        check.same("all but the width", all.then(desk -> desk.set(5, 19)).made().caption(0, 1, PROBLEMS), 47);
        check.same("all but the frames", all.then(desk -> desk.move(0, 1, 111, 150)).then(Desks.texts("c151")).made()
                .caption(0, 1, PROBLEMS), 62);
        for (int what = 2; what <= 6; what++) {
            check.same("track(0, " + what + ")", all.made().track(0, what), what == 3 || what == 6 ? 2 : 1);
        }
        check.same("none", sign(0, 100, "x").made().caption(0, 0, PROBLEMS), 0);
    }

    private void partnerByFrames() {
        check.about("the caption of the other track that shares the most frames with it, of several the first one");
        String[] others = {"b.90-99:p", "b.90-100:p", "b.90-101:p", "b.200-210:p", "b.199-210:p", "b.0-1000:p", "b.100-200:p",
            "b.150-151:p", "b.100-150:p;b.150-200:q", "b.100-149:p;b.149-200:q", "b.100-151:p;b.151-200:q",
            "b.90-110:p;b.120-129:q;b.130-140:r", "b.90-110:p;b.120-130:q;b.130-141:r", "b.0-100:p;b.199-200:q;b.200-300:r"};
        int[] partners = {-1, -1, 0, -1, 0, 0, 0, 0, 0, 1, 0, 0, 2, 1};
        int[] shared = {0, 0, 1, 0, 1, 100, 100, 1, 50, 51, 51, 10, 11, 1};
        for (int i = 0; i < others.length; i++) {
            Desk desk = Desks.reading("a.100-200:x;a.900-901:y", others[i]);
            check.same("the partner in " + others[i], desk.caption(0, 0, PARTNER), partners[i]);
            check.same("the shared frames in " + others[i], desk.caption(0, 0, SHARED), shared[i]);
        }
        Desk none = Desks.reading("a.100-200:x;a.200-300:y");
        check.same("none in an empty track", none.caption(0, 0, PARTNER), -1);
        check.same("shares none", none.caption(0, 0, SHARED), 0);
    }

    private void partnerOfAPartner() {
        check.about("The partner of a caption may have another partner.");
        Desk desk = Desks.reading("a.100-120:x;a.120-200:y;b.110-190:z");
        check.same("of the first one", desk.caption(0, 0, PARTNER), 0);
        check.same("of the second one", desk.caption(0, 1, PARTNER), 0);
        check.same("of their partner", desk.caption(1, 0, PARTNER), 1);
        check.same("frames of the first one", desk.caption(0, 0, SHARED), 10);
        check.same("frames of their partner", desk.caption(1, 0, SHARED), 70);
        // The first frames and ends of the first one and of its partner differ by less than the tolerance, whatever partner that has.
        Run run = Desks.texts("a.100-110:x;a.110-122:y;b.100-121:z").then(made -> made.set(4, 11));
        check.same("is in step all the same", run.made().caption(0, 0, PROBLEMS), 0);
        check.same("its partner's partner is the second one", run.made().caption(1, 0, PARTNER), 1);
        check.same("with which it is in step too", run.made().caption(1, 0, PROBLEMS), 0);
    }

    private void cutsBetween() {
        check.about("9 the cuts between its first frame and its end, both not included");
        String[] cuts = {"u1", "c99", "c100", "c101", "c199", "c200", "c201", "c100;c200", "c101;c199", "c99;c100;c101;c199;c200;c201"};
        int[] due = {0, 0, 0, 1, 1, 0, 0, 0, 2, 2};
        for (int i = 0; i < cuts.length; i++) {
            Desk desk = Desks.reading("a.100-200:x", cuts[i]);
            check.same(cuts[i], desk.caption(0, 0, CUTS), due[i]);
            check.same(cuts[i] + ": track(0, 7)", desk.track(0, 7), Math.min(1, due[i]));
        }
        check.same("of one frame", Desks.reading("a.100-101:x;c100;c101;c99").caption(0, 0, CUTS), 0);
        check.same("of two frames", Desks.reading("a.100-102:x;c100;c101;c102").caption(0, 0, CUTS), 1);
        check.same("of the film", Desks.reading("a.0-1000:x;c1;c999").caption(0, 0, CUTS), 2);
        Desk most = Desks.reading("a.0-1000:x");
        for (int i = 1; i <= 20; i++) {
            most.cut(i, true);
        }
        check.same("20 cuts", most.caption(0, 0, CUTS), 20);
    }

    private void framesBefore() {
        check.about("10 the frames between it and the caption before it, -1 for the first one of the track");
        Desk desk = Desks.reading("a.5-10:x;a.10-20:y;a.21-30:z;a.32-40:w", "b.999-1000:v");
        int[] due = {-1, 0, 1, 2};
        for (int i = 0; i < due.length; i++) {
            check.same("of " + i, desk.caption(0, i, GAP), due[i]);
        }
        check.same("of the other track", desk.caption(1, 0, GAP), -1);
        desk.remove(0, 0);
        check.same("the first one then", desk.caption(0, 0, GAP), -1);
        check.same("the greatest", Desks.reading("b.0-1:x;b.999-1000:y").caption(1, 1, GAP), 998);
    }

    private void whatOfACaption() {
        check.about("Throws IllegalArgumentException if what is out of range");
        int[] due = {100, 140, 0, 4, 8, 0, 0, 4, 4, 1, -1, 34};
        for (int what = 0; what < due.length; what++) {
            check.same("caption(0, 0, " + what + ")", FED.made().caption(0, 0, what), due[what]);
        }
        for (int what : new int[] {-1, 12, -2, 13, Integer.MIN_VALUE, Integer.MAX_VALUE}) {
            check.leaves("caption(0, 0, " + what + ")", IllegalArgumentException.class, FED, desk -> desk.caption(0, 0, what));
            check.leaves("no caption comes first", IndexOutOfBoundsException.class, FED, desk -> desk.caption(0, 3, what));
            check.leaves("no track comes first", IndexOutOfBoundsException.class, FED, desk -> desk.caption(2, 0, what));
        }
    }

    private void letters() {
        check.about("Throws NoSuchElementException if there is no such character");
        for (String text : new String[] {"q", "ab", "a|_", "abcdefghijklmnopqrstuvw", "abcdefghijklmnopqrstuvwx"}) {
            Run run = Desks.texts("b.1-9:zzzzzzzzzzzzzzzzzzzzzzzz", "b.10-20:" + text);
            for (int index = 0; index < text.length(); index++) {
                check.same("letter " + index + " of " + text, run.made().letter(1, 1, index), text.charAt(index));
            }
            for (int index : new int[] {-1, text.length(), text.length() + 1, 24, Integer.MIN_VALUE, Integer.MAX_VALUE}) {
                check.fails("letter " + index + " of " + text, NoSuchElementException.class, () -> run.made().letter(1, 1, index));
            }
        }
        check.leaves("letter 4", NoSuchElementException.class, FED, desk -> desk.letter(0, 0, 4));
        check.leaves("letter -1", NoSuchElementException.class, FED, desk -> desk.letter(0, 0, -1));
        check.leaves("no caption comes first", IndexOutOfBoundsException.class, FED, desk -> desk.letter(0, 3, -1));
    }

    private void shownFrames() {
        check.about("It is shown from its first frame up to the one before its end.");
        int[][] spans = {{0, 1}, {0, 2}, {10, 11}, {10, 40}, {998, 999}, {999, 1000}};
        for (int[] span : spans) {
            Run run = Desks.texts("b.500-501:y", "b.600-601:z", "b." + span[0] + "-" + span[1] + ":x");
            int due = span[0] < 500 ? 0 : 2;
            check.same("the first frame of " + span[0], run.made().shown(1, span[0]), due);
            check.same("the last frame", run.made().shown(1, span[1] - 1), due);
            for (int none : new int[] {span[0] - 1, span[1]}) {
                if (none >= 0 && none < 1000) {
                    check.leaves("shown on " + none, NoSuchElementException.class, run, desk -> desk.shown(1, none));
                }
            }
            check.fails("in the other track", NoSuchElementException.class, () -> run.made().shown(0, span[0]));
        }
        Run touching = Desks.texts("a.10-20:x;a.20-30:y");
        check.same("before the border", touching.made().shown(0, 19), 0);
        check.same("behind the border", touching.made().shown(0, 20), 1);
        check.leaves("no track comes first", IndexOutOfBoundsException.class, FED, desk -> desk.shown(2, 0));
        check.leaves("no frame comes first", IndexOutOfBoundsException.class, FED, desk -> desk.shown(0, 900));
        check.leaves("none", NoSuchElementException.class, FED, desk -> desk.shown(0, 899));
    }

    private void framesAndLoadOfATrack() {
        check.about("0 the frames on which it shows captions; 1 the load of all captions");
        String[] texts = {"b.1-2:x", "a.0-1:x", "a.0-1000:a|b", "a.10-20:a_b;a.20-21:c|d;a.999-1000:e"};
        int[] frames = {0, 1, 1000, 12};
        int[] loads = {0, 1, 2, 6};
        for (int i = 0; i < texts.length; i++) {
            check.same("frames of " + texts[i], Desks.reading(texts[i]).track(0, 0), frames[i]);
            check.same("load of " + texts[i], Desks.reading(texts[i]).track(0, 1), loads[i]);
        }
        Desk full = new Desk();
        for (int i = 0; i < 16; i++) {
            Desks.add(full, 1, 0, i * 2, i * 2 + 1, "abcdefghijklmnopqrstuvwx");
        }
        check.same("frames of a full track", full.track(1, 0), 16);
        check.same("load of a full track", full.track(1, 1), 16 * 24);
    }

    private void captionsOfATrackWithProblems() {
        check.about("2 the captions with the problem 1; 3 those with the problems 2 or 4; 4 those with the problem 8; 5 those with the problem 16");
        Run run = Desks.texts("a!10-11:xx;a!20-50:y;a!51-52:zz;a!60-90:abcdefg", "c22;c53;c62;c87").then(desk -> desk.set(5, 6));
        int[] due = {0, 0, 2, 3, 1, 1, 0};
        for (int what = 2; what <= 6; what++) {
            check.same("track(0, " + what + ")", run.made().track(0, what), due[what]);
            check.same("track(1, " + what + ")", run.made().track(1, what), 0);
        }
        check.same("number(11)", run.made().number(11), 4);
    }

    private void captionsOverACut() {
        check.about("7 the captions that are shown over a cut");
        Run run = Desks.texts("b.10-20:x;b.20-30:y;b.30-31:z");
        int[][] cuts = {{9, 0}, {10, 0}, {11, 1}, {19, 1}, {20, 0}, {21, 1}, {29, 1}, {30, 0}, {31, 0}};
        for (int[] cut : cuts) {
            check.same("a cut at " + cut[0], run.then(desk -> desk.cut(cut[0], true)).made().track(1, 7), cut[1]);
        }
        check.same("two cuts in one", run.then(Desks.texts("c11;c12")).made().track(1, 7), 1);
        check.same("cuts in two", run.then(Desks.texts("c19;c21")).made().track(1, 7), 2);
        check.same("the other track", run.then(Desks.texts("c19;c21")).made().track(0, 7), 0);
    }

    private void captionsThatCouldBeMerged() {
        check.about("8 those that could be merged with the next one");
        String[] texts = {"u1", "a.10-20:x", "a.10-20:x;a.20-30:y", "a.10-20:x;a.25-30:y", "a.10-20:x;a.26-30:y", "a.10-20:x;a!20-30:y",
            "a.10-20:x;a.20-30:y;a.30-40:z", "a.10-20:a|b;a.20-30:c|d", "a.10-20:a|b;a.20-30:c", "a!10-20:x;b!20-30:y"};
        int[] due = {0, 0, 1, 1, 0, 0, 2, 0, 1, 0};
        for (int i = 0; i < texts.length; i++) {
            check.same(texts[i], Desks.reading(texts[i]).track(0, 8), due[i]);
        }
        Desk full = new Desk();
        for (int i = 0; i < 16; i++) {
            Desks.add(full, 1, 2, i * 2, i * 2 + 1, "x");
        }
        check.same("a full track", full.track(1, 8), 15);
    }

    private void whatOfATrack() {
        check.about("Throws IllegalArgumentException if what is out of range");
        for (int what : new int[] {-1, 9, -2, 10, Integer.MIN_VALUE, Integer.MAX_VALUE}) {
            for (int track = 0; track <= 1; track++) {
                int of = track;
                check.leaves("track(" + track + ", " + what + ")", IllegalArgumentException.class, FED, desk -> desk.track(of, what));
            }
            check.leaves("no track comes first", IndexOutOfBoundsException.class, FED, desk -> desk.track(2, what));
            check.leaves("no track comes first", IndexOutOfBoundsException.class, FED, desk -> desk.track(-1, what));
        }
        int[] due = {57, 7, 0, 0, 0, 0, 0, 1, 1};
        for (int what = 0; what < due.length; what++) {
            check.same("track(0, " + what + ")", FED.made().track(0, what), due[what]);
        }
    }

    private void theFastest() {
        check.about("the greatest load for each frame, [...] of several the first one; throws if it has no captions");
        check.leaves("no captions", NoSuchElementException.class, Desks.texts("b.1-2:x"), desk -> desk.fastest(0));
        check.leaves("no captions", NoSuchElementException.class, Desks.texts("a.1-2:x"), desk -> desk.fastest(1));
        check.same("one caption", Desks.reading("b.1-2:x").fastest(1), 0);
        check.same("all alike", Desks.reading("a.1-3:x;a.5-9:xx;a.10-12:y").fastest(0), 0);
        check.same("the last one", Desks.reading("a.1-3:x;a.5-9:xx;a.10-11:y").fastest(0), 2);
        check.same("two alike behind a slower one", Desks.reading("a.1-3:x;a.5-6:y;a.10-12:zz").fastest(0), 1);
        check.same("a new line is no load", Desks.reading("a.1-3:a|b;a.5-7:cde").fastest(0), 1);
        check.same("a space is", Desks.reading("a.1-3:ab;a.5-7:c__").fastest(0), 1);
        check.leaves("no track", IndexOutOfBoundsException.class, FED, desk -> desk.fastest(2));
    }

    private void theFastestExactly() {
        check.about("compared exactly");
        // Loads for frames that differ by less than a rounded quotient would tell.
        int[][] pairs = {{24, 4996, 23, 4788}, {23, 4788, 24, 4996}, {24, 4997, 23, 4788}, {23, 4789, 24, 4997}, {24, 4800, 23, 4600},
            {23, 4600, 24, 4800}, {24, 4800, 23, 4599}, {23, 4600, 24, 4799}, {1, 3, 2, 6}, {2, 6, 1, 3}, {1, 3, 2, 5}, {2, 5, 1, 3}};
        for (int[] pair : pairs) {
            Desk desk = new Desk();
            desk.film(9999);
            Desks.add(desk, 0, 0, 0, pair[1], "x".repeat(pair[0]));
            Desks.add(desk, 0, 0, pair[1], pair[1] + pair[3], "y".repeat(pair[2]));
            long former = (long) pair[0] * pair[3];
            long latter = (long) pair[2] * pair[1];
            check.same(java.util.Arrays.toString(pair), desk.fastest(0), former >= latter ? 0 : 1);
        }
    }

    private void theSpeed() {
        check.about("25.0 times the load of all its captions, converted to double, divided by the frames [...]; throws if it has no captions");
        check.leaves("no captions", ArithmeticException.class, Desks.texts("b.1-2:x"), desk -> desk.speed(0));
        check.leaves("no captions", ArithmeticException.class, Desks.texts("a.1-2:x").then(desk -> desk.remove(0, 0)), desk -> desk.speed(0));
        check.leaves("no track", IndexOutOfBoundsException.class, FED, desk -> desk.speed(2));
        for (int frames : new int[] {1, 2, 3, 7, 9, 11, 27, 49, 999, 1000}) {
            for (int load : new int[] {1, 2, 3, 5, 7, 23, 24}) {
                Desk desk = new Desk();
                Desks.add(desk, 1, 0, 0, frames, "x".repeat(load));
                check.sameDouble(load + " in " + frames, desk.speed(1), 25.0 * (double) load / (double) frames);
            }
        }
        check.sameDouble("of two", Desks.reading("a.0-10:a|b;a.20-23:c_d").speed(0), 125.0 / 13.0);
    }

    private void asking() {
        check.about("A method that throws an exception leaves the state unchanged; those that tell leave it too");
        Run asked = FED.then(desk -> {
            for (int what = 0; what <= 13; what++) {
                desk.number(what);
            }
            for (int what = 0; what <= 11; what++) {
                desk.caption(1, 2, what);
            }
            for (int what = 0; what <= 8; what++) {
                desk.track(1, what);
            }
            desk.shot(0);
            desk.shown(0, 100);
            desk.letter(0, 0, 0);
            desk.fastest(0);
            desk.speed(0);
            desk.faultPosition();
            desk.refusal(true);
            desk.refusal(false);
        });
        check.sameText("differences", Whole.of(asked).differencesTo(Whole.of(FED)), "");
    }
}
