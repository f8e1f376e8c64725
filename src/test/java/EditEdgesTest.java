/** The boundary cases of splitting, merging, snapping and fitting: promises 11 to 14, sentence by sentence. */
final class EditEdgesTest {
    private static final Run BUSY = Desks::busy;
    private static final Run FED = BUSY.then(desk -> Desks.feed(desk, "q_r"));
    private static final Run FULL = desk -> {
        for (int i = 0; i < 16; i++) {
            Desks.add(desk, 0, 0, i * 10, i * 10 + (i == 0 ? 1 : 5), "a_b");
        }
    };

    private final Check check = new Check("EditEdgesTest");

    public static void main(String[] args) {
        EditEdgesTest test = new EditEdgesTest();
        test.splitAtACharacterThatIsThere();
        test.splitAtASpaceOrANewLine();
        test.splitRoundsDown();
        test.splitLeavesAFrameForTheFirst();
        test.splitLeavesAFrameForTheSecond();
        test.splitIntoValidTexts();
        test.splitKeepsTheKind();
        test.splitReasonsInTheirOrder();
        test.splitInLargeNumbers();
        test.mergeNeedsACaptionBehind();
        test.mergeNeedsTheSameKind();
        test.mergeGap();
        test.mergeIntoAValidText();
        test.mergeReasonsInTheirOrder();
        test.mergeTellsTheLoad();
        test.mergeInAFullTrack();
        test.snapWithinTheZone();
        test.snapAtACut();
        test.snapToTheNearestCut();
        test.snapTellsWhatWasMoved();
        test.snapToNoFrames();
        test.snapIntoOthers();
        test.fitForTheFramesThatItNeeds();
        test.fitNotBehindTheFilm();
        test.fitLeavesTheLeastGap();
        test.fitNotBehindACut();
        test.fitHeldBackByTheNearest();
        test.editsInARow();
        test.check.end();
    }

    private void captionsAre(String what, Desk desk, int track, String due) {
        check.sameText(what, Desks.captions(desk, track), due);
    }

    private void splitAtACharacterThatIsThere() {
        check.about("Throws IndexOutOfBoundsException if there is no such track or caption, or no such character");
        Run one = Desks.texts("a.100-110:_a_", "b.100-110:" + "a_".repeat(12));
        for (int place : new int[] {-1, 3, 4, 23, 24, -2, Integer.MIN_VALUE, Integer.MAX_VALUE}) {
            check.leaves("split(0, 0, " + place + ")", IndexOutOfBoundsException.class, one, desk -> desk.split(0, 0, place));
        }
        check.refuses("split(0, 0, 0)", 4, one, desk -> desk.split(0, 0, 0));
        check.refuses("split(0, 0, 2)", 4, one, desk -> desk.split(0, 0, 2));
        check.refuses("split(1, 0, 23)", 4, one, desk -> desk.split(1, 0, 23));
        check.leaves("split(1, 0, 24)", IndexOutOfBoundsException.class, one, desk -> desk.split(1, 0, 24));
        check.leaves("split(0, 0, 4)", IndexOutOfBoundsException.class, FED, desk -> desk.split(0, 0, 4));
        check.leaves("split(0, 0, -1)", IndexOutOfBoundsException.class, FED, desk -> desk.split(0, 0, -1));
        check.same("split(0, 0, 2)", FED.made().split(0, 0, 2), 40 * 2 / 3);
    }

    private void splitAtASpaceOrANewLine() {
        check.about("Splits a caption at a character of its text, which must be _ or | and is dropped");
        for (String text : new String[] {"a_b", "a|b"}) {
            Run run = Desks.texts("a.100-110:" + text);
            Run split = run.then(desk -> desk.split(0, 0, 1));
            check.same("split of " + text, run.made().split(0, 0, 1), 5);
            captionsAre(text, split.made(), 0, "0/100-105:a 0/105-110:b");
        }
        for (String text : new String[] {"aab", "azb", "a_b"}) {
            for (int place = 0; place < 3; place += text.equals("a_b") ? 2 : 1) {
                int at = place;
                check.refuses("split of " + text + " at " + at, 4, Desks.texts("a.100-110:" + text), desk -> desk.split(0, 0, at));
            }
        }
        Run several = Desks.texts("a.100-110:a_b_c|d_e");
        String[] due = {"0/100-101:a 0/101-110:b_c|d_e", "0/100-104:a_b 0/104-110:c|d_e", "0/100-106:a_b_c 0/106-110:d_e",
            "0/100-108:a_b_c|d 0/108-110:e"};
        for (int i = 0; i < due.length; i++) {
            int at = 1 + 2 * i;
            captionsAre("at " + at, several.then(desk -> desk.split(0, 0, at)).made(), 0, due[i]);
        }
    }

    /** Two texts of so many letters, with a space between them. */
    private static String words(int head, int tail) {
        return "h".repeat(head) + "_" + "t".repeat(tail);
    }

    private void splits(int frames, int head, int tail, int due) {
        Run run = Desks.texts("b*200-" + (200 + frames) + ":" + words(head, tail));
        String what = frames + " frames, loads " + head + " and " + tail;
        check.same(what, run.made().split(1, 0, head), due);
        int border = 200 + due;
        captionsAre(what, run.then(desk -> desk.split(1, 0, head)).made(), 1, "2/200-" + border + ":" + "h".repeat(head)
                + " 2/" + border + "-" + (200 + frames) + ":" + "t".repeat(tail));
    }

    private void splitRoundsDown() {
        check.about("as many frames as the frames of the caption, times its load, divided by the loads of both, rounded down");
        int[][] due = {{2, 1, 1, 1}, {3, 1, 1, 1}, {4, 1, 1, 2}, {5, 1, 1, 2}, {5, 2, 1, 3}, {6, 2, 1, 4}, {7, 2, 1, 4},
            {8, 2, 1, 5}, {8, 1, 2, 2}, {9, 1, 2, 3}, {10, 1, 2, 3}, {22, 11, 12, 10}, {23, 11, 12, 11}, {24, 11, 12, 11},
            {25, 11, 12, 11}, {26, 11, 12, 12}, {100, 22, 1, 95}, {46, 22, 1, 44}, {45, 22, 1, 43}, {47, 22, 1, 44}};
        for (int[] row : due) {
            splits(row[0], row[1], row[2], row[3]);
        }
        Run lines = Desks.texts("a.200-210:ab|c_de");
        check.same("a new line is no load", lines.made().split(0, 0, 4), 6);
        check.same("nor the one that is dropped", lines.made().split(0, 0, 2), 10 * 2 / 6);
        check.same("spaces are a load", Desks.reading("a.200-210:__|_b").split(0, 0, 2), 5);
    }

    private void splitLeavesAFrameForTheFirst() {
        check.about("but at least for 1");
        int[][] due = {{2, 1, 22, 1}, {21, 1, 22, 1}, {22, 1, 22, 1}, {23, 1, 22, 1}, {24, 1, 22, 1}, {45, 1, 22, 1},
            {46, 1, 22, 2}, {47, 1, 22, 2}, {2, 1, 2, 1}, {3, 1, 2, 1}, {5, 1, 2, 1}, {6, 1, 2, 2}};
        for (int[] row : due) {
            splits(row[0], row[1], row[2], row[3]);
        }
    }

    private void splitLeavesAFrameForTheSecond() {
        check.about("for 2 if the second one would have no frame");
        for (int[] loads : new int[][] {{1, 1}, {1, 22}, {22, 1}, {11, 12}}) {
            Run one = Desks.texts("b*200-201:" + words(loads[0], loads[1]));
            check.refuses("1 frame, loads " + loads[0] + ", " + loads[1], 2, one, desk -> desk.split(1, 0, loads[0]));
            splits(2, loads[0], loads[1], 1);
            splits(3, loads[0], loads[1], Math.max(1, 3 * loads[0] / (loads[0] + loads[1])));
        }
        check.refuses("the last frame of the film", 2, Desks.texts("a.999-1000:a_b"), desk -> desk.split(0, 0, 1));
    }

    private void splitIntoValidTexts() {
        check.about("for 4 if it is another character or one of the texts would not be valid");
        String[] texts = {"_a", "a_", "a_|b", "a|_b", "_", "__", "__", "_|_", "_|_", "a_b|_", "_|b_c"};
        int[] places = {0, 1, 1, 2, 0, 0, 1, 0, 2, 4, 0};
        for (int i = 0; i < texts.length; i++) {
            int place = places[i];
            Run run = Desks.texts("a.100-110:" + texts[i]);
            check.refuses("split of " + texts[i] + " at " + place, 4, run, desk -> desk.split(0, 0, place));
        }
        captionsAre("a_|b at |", Desks.texts("a.100-109:a_|b").then(desk -> desk.split(0, 0, 2)).made(), 0,
                "0/100-106:a_ 0/106-109:b");
        captionsAre("a|_b at |", Desks.texts("a.100-109:a|_b").then(desk -> desk.split(0, 0, 1)).made(), 0,
                "0/100-103:a 0/103-109:_b");
        captionsAre("_|_ at |", Desks.texts("a.100-109:_|_").then(desk -> desk.split(0, 0, 1)).made(), 0,
                "0/100-104:_ 0/104-109:_");
        captionsAre("___ in the middle", Desks.texts("a.100-109:___").then(desk -> desk.split(0, 0, 1)).made(), 0,
                "0/100-104:_ 0/104-109:_");
    }

    private void splitKeepsTheKind() {
        check.about("the texts of two captions of its kind");
        for (int kind = 0; kind <= 2; kind++) {
            String sign = "" + ".!*".charAt(kind);
            Run run = Desks.texts("a" + sign + "50-60:v;a" + sign + "100-110:a_b;a" + sign + "110-111:w", "b.100-110:x_y");
            Run split = run.then(desk -> desk.split(0, 1, 1));
            captionsAre("the kind " + kind, split.made(), 0,
                    kind + "/50-60:v " + kind + "/100-105:a " + kind + "/105-110:b " + kind + "/110-111:w");
            captionsAre("the other track", split.made(), 1, "0/100-110:x_y");
            check.sameText("undone", Whole.film(split.then(Desk::undo)), Whole.film(run));
        }
    }

    private void splitReasonsInTheirOrder() {
        check.about("which is looked at first, for 2 if the second one would have no frame, or for 8");
        check.refuses("4 before 2 and 8", 4, FULL, desk -> desk.split(0, 0, 0));
        check.refuses("2 before 8", 2, FULL, desk -> desk.split(0, 0, 1));
        check.refuses("4 before 8", 4, FULL, desk -> desk.split(0, 1, 2));
        check.refuses("8", 8, FULL, desk -> desk.split(0, 1, 1));
        check.refuses("8 at the last one", 8, FULL, desk -> desk.split(0, 15, 1));
        Run fifteen = FULL.then(desk -> desk.remove(0, 7));
        check.same("15 captions", fifteen.made().split(0, 14, 1), 2);
        check.refuses("4 before 2 with room", 4, fifteen, desk -> desk.split(0, 0, 2));
        check.refuses("2 with room", 2, fifteen, desk -> desk.split(0, 0, 1));
        check.refuses("the one behind the 16th", 8, fifteen.then(desk -> desk.split(0, 3, 1)), desk -> desk.split(0, 2, 1));
        check.leaves("no such character comes first", IndexOutOfBoundsException.class, FULL, desk -> desk.split(0, 0, 3));
    }

    private void splitInLargeNumbers() {
        check.about("as many frames as the frames of the caption, times its load, divided by the loads of both, rounded down");
        Run run = desk -> {
            desk.film(9999);
            Desks.add(desk, 0, 0, 0, 9999, words(11, 12));
            Desks.add(desk, 1, 0, 0, 9999, words(22, 1));
        };
        check.same("11 of 23", run.made().split(0, 0, 11), 4782);
        check.same("22 of 23", run.made().split(1, 0, 22), 9564);
    }

    private void mergeNeedsACaptionBehind() {
        check.about("5, there is no caption behind it");
        for (int count : new int[] {1, 2, 3, 16}) {
            Run run = desk -> {
                for (int i = 0; i < count; i++) {
                    Desks.add(desk, 1, 2, i * 2, i * 2 + 1, "x");
                }
                Desks.add(desk, 0, 2, 100, 101, "y");
            };
            check.refuses("the last of " + count, 5, run, desk -> desk.merge(1, count - 1));
            check.leaves("behind it", IndexOutOfBoundsException.class, run, desk -> desk.merge(1, count));
            check.leaves("before all", IndexOutOfBoundsException.class, run, desk -> desk.merge(1, -1));
            if (count > 1) {
                check.same("the one before it", run.made().merge(1, count - 2), 3);
            }
        }
    }

    private void mergeNeedsTheSameKind() {
        check.about("6, both have different kinds");
        for (int kind = 0; kind <= 2; kind++) {
            for (int other = 0; other <= 2; other++) {
                Run run = Desks.texts("a" + ".!*".charAt(kind) + "10-20:x;a" + ".!*".charAt(other) + "20-30:y");
                if (kind == other) {
                    captionsAre("merged", run.then(desk -> desk.merge(0, 0)).made(), 0, kind + "/10-30:x_y");
                } else {
                    check.refuses("the kinds " + kind + " and " + other, 6, run, desk -> desk.merge(0, 0));
                }
            }
        }
    }

    private void mergeGap() {
        check.about("7, the gap between both is greater than the gap for merging, which is 0 to 25, at first 5");
        for (int gap : new int[] {0, 1, 4, 5, 6, 7, 24, 25}) {
            Run two = Desks.texts("a.10-20:x;b.25-26:z");
            for (int between : new int[] {gap - 1, gap, gap + 1, gap + 2}) {
                if (between < 0) {
                    continue;
                }
                Run run = two.then(desk -> Desks.add(desk, 0, 0, 20 + between, 60, "y")).then(desk -> desk.set(3, gap));
                String what = "a gap of " + between + " where " + gap + " is allowed";
                if (between > gap) {
                    check.refuses(what, 7, run, desk -> desk.merge(0, 0));
                } else {
                    captionsAre(what, run.then(desk -> desk.merge(0, 0)).made(), 0, "0/10-60:x_y");
                }
                check.same(what + ", counted", run.made().track(0, 8), between > gap ? 0 : 1);
            }
        }
        check.same("5 at first", Desks.reading("a.10-20:x;a.25-30:y").merge(0, 0), 3);
        check.refuses("6 at first", 7, Desks.texts("a.10-20:x;a.26-30:y"), desk -> desk.merge(0, 0));
    }

    private static Run two(String former, String latter) {
        return desk -> {
            Desks.add(desk, 0, 0, 10, 20, former);
            Desks.add(desk, 0, 0, 20, 30, latter);
        };
    }

    private void mergeIntoAValidText() {
        check.about("4, its text would not be valid");
        for (int head : new int[] {1, 2, 11, 12, 22, 23, 24}) {
            for (int size = 22; size <= 25; size++) {
                int tail = size - 1 - head;
                if (tail >= 1) {
                    mergedSize("h".repeat(head), "t".repeat(tail), size);
                }
            }
        }
        check.refuses("24 and 24", 4, two("x".repeat(24), "y".repeat(24)), desk -> desk.merge(0, 0));
        check.refuses("24 and 1", 4, two("x".repeat(24), "y"), desk -> desk.merge(0, 0));
        check.refuses("1 and 24", 4, two("x", "y".repeat(24)), desk -> desk.merge(0, 0));
        check.refuses("two new lines", 4, two("a|b", "c|d"), desk -> desk.merge(0, 0));
        captionsAre("the first one has a new line", two("a|b", "c").then(desk -> desk.merge(0, 0)).made(), 0, "0/10-30:a|b_c");
        captionsAre("the second one has", two("a", "b|c").then(desk -> desk.merge(0, 0)).made(), 0, "0/10-30:a_b|c");
        captionsAre("spaces", two("_", "_").then(desk -> desk.merge(0, 0)).made(), 0, "0/10-30:___");
    }

    private void mergedSize(String head, String tail, int size) {
        Run run = two(head, tail);
        if (size > 24) {
            check.refuses(head + " and " + tail, 4, run, desk -> desk.merge(0, 0));
            check.same("counted", run.made().track(0, 8), 0);
        } else {
            check.same(head + " and " + tail, run.made().merge(0, 0), size);
            captionsAre("merged", run.then(desk -> desk.merge(0, 0)).made(), 0, "0/10-30:" + head + "_" + tail);
            check.same("counted", run.made().track(0, 8), 1);
        }
    }

    private void mergeReasonsInTheirOrder() {
        check.about("for the reasons 4 to 7, of which 4 comes last");
        check.refuses("6 before 7 and 4", 6, Desks.texts("a.10-20:a|b;a!26-30:c|d"), desk -> desk.merge(0, 0));
        check.refuses("6 before 4", 6, Desks.texts("a.10-20:a|b;a!25-30:c|d"), desk -> desk.merge(0, 0));
        check.refuses("6 before 7", 6, Desks.texts("a.10-20:a;a*26-30:c"), desk -> desk.merge(0, 0));
        check.refuses("7 before 4", 7, Desks.texts("a.10-20:a|b;a.26-30:c|d"), desk -> desk.merge(0, 0));
        check.refuses("4", 4, Desks.texts("a.10-20:a|b;a.25-30:c|d"), desk -> desk.merge(0, 0));
        check.refuses("5 before 4", 5, Desks.texts("a.10-20:" + "x".repeat(24)), desk -> desk.merge(0, 0));
        check.leaves("no such caption comes first", IndexOutOfBoundsException.class, FED, desk -> desk.merge(0, 3));
    }

    private void mergeTellsTheLoad() {
        check.about("Returns the load of the caption then.");
        String[][] texts = {{"a", "b"}, {"a|b", "c"}, {"a", "b|c"}, {"abcdefghijk", "lmnopqrstuvw"}, {"_", "_"}};
        int[] due = {3, 4, 4, 24, 3};
        for (int i = 0; i < texts.length; i++) {
            Run run = two(texts[i][0], texts[i][1]);
            check.same(texts[i][0] + " and " + texts[i][1], run.made().merge(0, 0), due[i]);
            check.same("the load", run.then(desk -> desk.merge(0, 0)).made().caption(0, 0, 3), due[i]);
        }
    }

    private void mergeInAFullTrack() {
        check.about("a caption that has the first frame of the former and the end of the latter");
        Run full = FULL.then(desk -> desk.set(3, 9));
        for (int i = 0; i < 15; i++) {
            int caption = i;
            Run merged = full.then(desk -> desk.merge(0, caption));
            Desk desk = merged.made();
            check.same("captions", desk.number(8), 15);
            check.same("the first frame", desk.caption(0, caption, 0), caption * 10);
            check.same("the end", desk.caption(0, caption, 1), caption * 10 + 15);
            check.same("the last caption's end", desk.caption(0, 14, 1), 155);
            check.same("the first caption's first frame", desk.caption(0, 0, 0), 0);
            check.sameText("its text", Desks.text(desk, 0, caption), "a_b_a_b");
            check.sameText("undone", Whole.film(merged.then(Desk::undo)), Whole.film(full));
        }
    }

    private void snapWithinTheZone() {
        check.about("A frame is loose if [...] there is a cut that differs from it by at most the zone, which is 0 to 12");
        for (int zone : new int[] {0, 1, 2, 3, 11, 12}) {
            for (int away = 0; away <= 14; away++) {
                boolean isLoose = away > 0 && away <= zone;
                for (int cut : new int[] {100 - away, 100 + away}) {
                    Run run = Desks.texts("a.100-200:x;c" + cut).then(desk -> desk.set(1, zone));
                    snapped(run, "the first frame, " + cut + ", zone " + zone, isLoose ? 1 : 0, isLoose ? cut : 100, 200);
                }
                for (int cut : new int[] {200 - away, 200 + away}) {
                    Run run = Desks.texts("a.100-200:x;c" + cut).then(desk -> desk.set(1, zone));
                    snapped(run, "the end, " + cut + ", zone " + zone, isLoose ? 2 : 0, 100, isLoose ? cut : 200);
                }
            }
        }
        snapped(Desks.texts("a.100-200:x"), "without cuts", 0, 100, 200);
        snapped(Desks.texts("a.0-1000:x;c1;c999"), "the edges of the film", 3, 1, 999);
        snapped(Desks.texts("a.0-1000:x;c3;c997"), "the zone at the edges", 3, 3, 997);
        snapped(Desks.texts("a.0-1000:x;c4;c996"), "behind the zone", 0, 0, 1000);
        snapped(Desks.texts("a.3-999:x;c1;c998"), "near the edges", 3, 1, 998);
    }

    private void snapped(Run run, String what, int due, int first, int end) {
        check.same(what, run.made().snap(0, 0), due);
        Desk desk = run.then(made -> made.snap(0, 0)).made();
        check.same(what + ": first", desk.caption(0, 0, 0), first);
        check.same(what + ": end", desk.caption(0, 0, 1), end);
    }

    private void snapAtACut() {
        check.about("A frame is loose if it is no cut");
        snapped(Desks.texts("a.100-200:x;c100;c99;c101"), "the first frame is a cut", 0, 100, 200);
        snapped(Desks.texts("a.100-200:x;c200;c199;c201"), "the end is a cut", 0, 100, 200);
        snapped(Desks.texts("a.100-200:x;c100;c201"), "only the end is loose", 2, 100, 201);
        snapped(Desks.texts("a.100-200:x;c101;c200"), "only the first frame is loose", 1, 101, 200);
        snapped(Desks.texts("a.100-200:x;c101;c199").then(desk -> desk.snap(0, 0)), "it was snapped already", 0, 101, 199);
        Run again = Desks.texts("a.100-200:x;c100;c200");
        check.same("is a change, also if nothing is different", again.then(desk -> desk.snap(0, 0)).made().number(12), 2);
    }

    private void snapToTheNearestCut() {
        check.about("to the nearest cut, of two equally near ones to the former");
        snapped(Desks.texts("a.100-200:x;c98;c102"), "two at 2", 1, 98, 200);
        snapped(Desks.texts("a.100-200:x;c102;c98"), "in another order", 1, 98, 200);
        snapped(Desks.texts("a.100-200:x;c197;c203"), "two at 3", 2, 100, 197);
        snapped(Desks.texts("a.100-200:x;c98;c101"), "the latter is nearer", 1, 101, 200);
        snapped(Desks.texts("a.100-200:x;c99;c102"), "the former is nearer", 1, 99, 200);
        snapped(Desks.texts("a.100-200:x;c97;c98;c103"), "of two before it", 1, 98, 200);
        snapped(Desks.texts("a.100-200:x;c97;c103;c102"), "of two behind it", 1, 102, 200);
        snapped(Desks.texts("a.100-200:x;c199;c201;c198;c99;c101;c102"), "both", 3, 99, 199);
        snapped(Desks.texts("a.100-200:x;c96;c103"), "the nearer one is in the zone", 1, 103, 200);
    }

    private void snapTellsWhatWasMoved() {
        check.about("Returns 1 if the first frame was moved, 2 if the end was, 3 if both were, 0 if none was.");
        snapped(Desks.texts("a.100-200:x"), "none", 0, 100, 200);
        snapped(Desks.texts("a.100-200:x;c103"), "the first frame", 1, 103, 200);
        snapped(Desks.texts("a.100-200:x;c203"), "the end", 2, 100, 203);
        snapped(Desks.texts("a.100-200:x;c103;c203"), "both", 3, 103, 203);
        snapped(Desks.texts("a.104-200:x;c103;c100;c203").then(desk -> desk.snap(0, 0)), "none any more", 0, 103, 203);
        snapped(Desks.texts("a.10-11:x;c9;c12"), "both of one frame", 3, 9, 12);
    }

    private void snapToNoFrames() {
        check.about("Snapping both to one cut is refused for the reason 2.");
        String[] texts = {"a.100-101:x;c99", "a.100-101:x;c102", "a.100-102:x;c101", "a.100-106:x;c103", "a.100-104:x;c102",
            "a.100-102:x;c100", "a.100-103:x;c103", "a.100-102:x;c99", "a.100-102:x;c103", "a.100-101:x;c99;c103"};
        for (String text : texts) {
            check.refuses("snap of " + text, 2, Desks.texts(text), desk -> desk.snap(0, 0));
        }
        snapped(Desks.texts("a.100-107:x;c103"), "one of them only", 1, 103, 107);
        snapped(Desks.texts("a.99-106:x;c103"), "the other one only", 2, 99, 103);
        snapped(Desks.texts("a.100-104:x;c102;c103"), "two cuts side by side", 3, 102, 103);
        check.about("where several apply, the one with the lowest number counts");
        check.refuses("2 before 3", 2, Desks.texts("a.100-102:x;a.102-110:y;c104;c103"), desk -> desk.snap(0, 0));
    }

    private void snapIntoOthers() {
        check.about("refused, for the reasons 2 or 3");
        check.refuses("one frame of the next one", 3, Desks.texts("a.100-200:x;a.201-210:y;c202"), desk -> desk.snap(0, 0));
        snapped(Desks.texts("a.100-200:x;a.202-210:y;c202"), "up to the next one", 2, 100, 202);
        snapped(Desks.texts("a.100-200:x;a.203-210:y;c202"), "before the next one", 2, 100, 202);
        check.refuses("one frame of the former one", 3, Desks.texts("a.50-99:w;a.100-200:x;c98"), desk -> desk.snap(0, 1));
        check.same("up to the former one", Desks.reading("a.50-98:w;a.100-200:x;c98").snap(0, 1), 1);
        check.same("behind the former one", Desks.reading("a.50-97:w;a.100-200:x;c98").snap(0, 1), 1);
        check.refuses("all of the next one", 3, Desks.texts("a.100-200:x;a.201-202:y;c203"), desk -> desk.snap(0, 0));
        check.same("the other track does not bind", Desks.reading("a.100-200:x;b.50-300:y;c98;c202").snap(0, 0), 3);
        check.refuses("both are loose, one is refused", 3, Desks.texts("a.100-200:x;a.201-210:y;c202;c99"), desk -> desk.snap(0, 0));
    }

    private void fits(Run run, String what, int due, int end) {
        check.same(what, run.made().fit(0, 0), due);
        Run fit = run.then(desk -> desk.fit(0, 0));
        check.same(what + ": the end", fit.made().caption(0, 0, 1), end);
        check.same(what + ": the first frame", fit.made().caption(0, 0, 0), run.made().caption(0, 0, 0));
        check.sameText(what + ": the film, undone", Whole.film(fit.then(Desk::undo)), Whole.film(run));
    }

    /** A caption that needs 12 frames. */
    private static Run needing(int first, int end, String... items) {
        return Desks.texts("a.10-11:x;u5", "a." + first + "-" + end + ":abcdefg").then(desk -> desk.remove(0, 0)).then(Desks.texts(items));
    }

    private void fitForTheFramesThatItNeeds() {
        check.about("so that it is shown for as many frames as it needs [...] If it is shown for enough frames already [...]");
        fits(needing(100, 101), "1 frame", 11, 112);
        fits(needing(100, 110), "10 frames", 2, 112);
        fits(needing(100, 111), "11 frames", 1, 112);
        fits(needing(100, 112), "12 frames", 0, 112);
        fits(needing(100, 113), "13 frames", 0, 113);
        fits(needing(100, 900), "800 frames", 0, 900);
        fits(Desks.texts("a!100-105:abcdefg"), "a sign of 5 frames", 1, 106);
        fits(Desks.texts("a!100-106:abcdefg"), "a sign of 6 frames", 0, 106);
        fits(Desks.texts("a*100-109:abcdefg"), "a song of 9 frames", 1, 110);
        fits(Desks.texts("a*100-110:abcdefg"), "a song of 10 frames", 0, 110);
        Run same = needing(100, 112);
        check.same("is a change, also if nothing is different", same.then(desk -> desk.fit(0, 0)).made().number(12), same.made().number(12) + 1);
    }

    private void fitNotBehindTheFilm() {
        check.about("but not behind the film");
        fits(needing(987, 990), "room for one more", 9, 999);
        fits(needing(988, 990), "just room", 10, 1000);
        fits(needing(989, 990), "one frame is missing", 10, 1000);
        fits(needing(999, 1000), "no room", 0, 1000);
        fits(needing(998, 999), "room for one", 1, 1000);
        fits(needing(90, 92).then(desk -> desk.film(101)), "a short film", 9, 101);
        fits(needing(90, 92).then(desk -> desk.film(102)), "just room in a short film", 10, 102);
    }

    private void fitLeavesTheLeastGap() {
        check.about("nor so that there would be fewer frames than the least gap between it and the next caption");
        for (int least : new int[] {0, 1, 2, 8, 9}) {
            for (int next : new int[] {101, 102, 103, 105, 109, 110, 111, 112, 113, 114, 119, 120, 121, 122, 130}) {
                Run run = needing(100, 101, "a.200-201:x").then(desk -> desk.set(2, least)).then(desk -> desk.move(0, 1, next, next + 1));
                int end = Math.max(101, Math.min(112, next - least));
                fits(run, "the next one at " + next + ", least gap " + least, end - 101, end);
            }
        }
        check.about("If there are fewer frames than the least gap behind a caption already, [...] fitting leaves it as it is.");
        fits(needing(100, 101, "a.101-102:x"), "no frames behind it", 0, 101);
        fits(needing(100, 101, "a.102-103:x"), "fewer than the least gap", 0, 101);
        fits(needing(100, 101, "a.103-104:x"), "the least gap", 0, 101);
        fits(needing(100, 101, "a.104-105:x"), "one frame more", 1, 102);
        check.same("the last one", needing(100, 101, "a.98-99:x").made().fit(0, 1), 11);
        fits(needing(100, 101, "b.101-102:x"), "the other track does not bind", 11, 112);
    }

    private void fitNotBehindACut() {
        check.about("nor behind the first cut that is not before its end");
        fits(needing(100, 105, "c99"), "before it", 7, 112);
        fits(needing(100, 105, "c100"), "at its first frame", 7, 112);
        fits(needing(100, 105, "c104"), "the frame before its end", 7, 112);
        fits(needing(100, 105, "c105"), "its end", 0, 105);
        fits(needing(100, 105, "c106"), "the frame behind its end", 1, 106);
        fits(needing(100, 105, "c111"), "one frame is missing", 6, 111);
        fits(needing(100, 105, "c112"), "just room", 7, 112);
        fits(needing(100, 105, "c113"), "behind it", 7, 112);
        fits(needing(100, 105, "c109;c107;c108"), "the first of three", 2, 107);
        fits(needing(100, 105, "c104;c107"), "the first one that is not before its end", 2, 107);
        check.about("or its end is a cut, fitting leaves it as it is");
        fits(needing(100, 105, "c105;c106"), "its end is a cut, and there is another one", 0, 105);
        fits(needing(100, 105, "c105;c104"), "its end is a cut, and there is one before it", 0, 105);
    }

    private void fitHeldBackByTheNearest() {
        check.about("If it is shown for enough frames already, or its end would not be later then, nothing is different.");
        fits(needing(100, 105, "a.110-111:x;c109"), "the least gap", 3, 108);
        fits(needing(100, 105, "a.110-111:x;c108"), "both", 3, 108);
        fits(needing(100, 105, "a.110-111:x;c107"), "the cut", 2, 107);
        fits(needing(990, 995, "c998"), "the cut before the end of the film", 3, 998);
        fits(needing(990, 995, "a.999-1000:x"), "the next one before the end of the film", 2, 997);
        fits(needing(100, 112, "a.113-114:x"), "enough already and too near", 0, 112);
        fits(needing(100, 113, "c113"), "more than enough, and a cut", 0, 113);
    }

    private void editsInARow() {
        check.about("the text of a caption stays its own, whatever was edited before");
        Desk desk = Desks.reading("a.10-20:long_one|text;a!30-40:b", "a.60-70:c_d;a*80-90:ee|f;c12;c62");
        desk.move(0, 0, 10, 19);
        desk.move(0, 1, 30, 39);
        captionsAre("two moves", desk, 0, "0/10-19:long_one|text 1/30-39:b 0/60-70:c_d 2/80-90:ee|f");
        desk.snap(0, 0);
        desk.snap(0, 2);
        captionsAre("two snaps", desk, 0, "0/12-19:long_one|text 1/30-39:b 0/62-70:c_d 2/80-90:ee|f");
        desk.split(0, 0, 8);
        desk.split(0, 3, 1);
        captionsAre("two splits", desk, 0, "0/12-16:long_one 0/16-19:text 1/30-39:b 0/62-66:c 0/66-70:d 2/80-90:ee|f");
        desk.merge(0, 0);
        desk.merge(0, 2);
        captionsAre("two merges", desk, 0, "0/12-19:long_one_text 1/30-39:b 0/62-70:c_d 2/80-90:ee|f");
        check.refuses("no text after a long one", 4, Desks.texts("a.1-2:" + "x".repeat(24)), made -> made.add(0, 0, 5, 6));
    }
}
