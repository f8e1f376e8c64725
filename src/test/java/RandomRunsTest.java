import java.util.Random;
import java.util.function.DoubleSupplier;

/** Runs of up to 512 calls, the same ones each time, answered by a desk and by the naive model of the document. */
final class RandomRunsTest {
    // One more than the input holds.
    private static final int MOST_FED = 61;
    // A text of items takes the most: what is fed, the call, and what is asked behind it; then all numbers are asked.
    private static final int MOST_OF_ONE_STEP = 120;
    private static final int MOST_CAPTIONS = 16;
    private static final int[] EXTREMES = {Integer.MIN_VALUE, Integer.MAX_VALUE, -1, Integer.MIN_VALUE + 1, Integer.MAX_VALUE - 1};
    private static final String FEED = "abcxyz_|_|abz_.!*-:;0123456789cu\u0000 \u00ff\u1234";

    private final Check check = new Check("RandomRunsTest");
    private Random random;
    private Desk desk;
    private Model model;
    private int run;
    private int span;
    private boolean isCrowded;

    public static void main(String[] args) {
        int runs = args.length > 0 ? Integer.parseInt(args[0]) : 1500;
        int first = args.length > 1 ? Integer.parseInt(args[1]) : 1;
        RandomRunsTest test = new RandomRunsTest();
        for (int run = first; run < first + runs; run++) {
            test.oneRun(run);
        }
        test.check.end();
    }

    private void oneRun(int number) {
        run = number;
        random = new Random(number);
        desk = new Desk();
        model = new Model();
        // In a small span captions meet often; in a wide one, and with short texts, a track fills up.
        span = new int[] {30, 100, 300, 1000, 9999}[random.nextInt(5)];
        isCrowded = random.nextInt(4) == 0;
        while (desk.callsLeft() > MOST_OF_ONE_STEP) {
            oneCall();
        }
        compareWhatIsLeft();
    }

    /** What a call answers, or the very class that it throws; a division by zero is the machine's own. */
    private static String answer(DoubleSupplier call) {
        try {
            return String.valueOf(call.getAsDouble());
        } catch (RuntimeException e) {
            return e.getClass().getName() + ("/ by zero".equals(e.getMessage()) ? " of the machine" : "");
        }
    }

    private void same(String call, DoubleSupplier ofDesk, DoubleSupplier ofModel) {
        String got = answer(ofDesk);
        String due = answer(ofModel);
        check.isTrue(got.equals(due) ? call : "run " + run + ": " + call + " is " + got + ", due is " + due + ", which",
                got.equals(due));
    }

    private int frame() {
        int dice = random.nextInt(60);
        if (dice == 0) {
            return EXTREMES[random.nextInt(EXTREMES.length)];
        }
        return dice == 1 ? random.nextInt(10010) - 5 : random.nextInt(span) - (dice == 2 ? 3 : 0);
    }

    private int track() {
        int dice = random.nextInt(40);
        return dice == 0 ? EXTREMES[random.nextInt(EXTREMES.length)] : dice == 1 ? 2 : dice % 2;
    }

    private int captionOf(int track) {
        int dice = random.nextInt(30);
        int count = track == 0 || track == 1 ? model.number(8 + track) : 1;
        return dice == 0 ? EXTREMES[random.nextInt(EXTREMES.length)] : random.nextInt(count + (dice < 3 ? 1 : 0) + (count == 0 ? 1 : 0));
    }

    private int what(int most) {
        return random.nextInt(40) == 0 ? EXTREMES[random.nextInt(EXTREMES.length)] : random.nextInt(most + 1) + (random.nextInt(60) == 0 ? most + 1 : 0);
    }

    private String words() {
        StringBuilder words = new StringBuilder();
        int size = isCrowded ? 1 + random.nextInt(2) : random.nextInt(4) == 0 ? random.nextInt(27) : 1 + random.nextInt(9);
        String signs = random.nextInt(4) == 0 ? "a|_" : "abcdefghijklmnopqrstuvwxyz_____";
        for (int i = 0; i < size; i++) {
            words.append(random.nextInt(12) == 0 && i == size / 2 ? '|' : signs.charAt(random.nextInt(signs.length())));
        }
        return words.toString();
    }

    private String item() {
        int first = Math.max(0, random.nextInt(span));
        if (random.nextInt(3) == 0) {
            return (random.nextInt(3) == 0 ? "u" : "c") + first;
        }
        int end = first + random.nextInt(12) - (random.nextInt(20) == 0 ? 5 : 0);
        return "ab".charAt(random.nextInt(2)) + "" + ".!*".charAt(random.nextInt(3)) + first + "-" + Math.max(0, end) + ":" + words();
    }

    private void feed(String text) {
        for (int i = 0; i < text.length(); i++) {
            char sign = text.charAt(i);
            same("feed(" + (int) sign + ")", () -> desk.feed(sign), () -> model.feed(sign));
        }
    }

    private void feedItems() {
        StringBuilder text = new StringBuilder(item());
        for (int i = random.nextInt(4); i > 0 || isCrowded && text.length() < 48; i--) {
            text.append(';').append(item());
        }
        int dice = random.nextInt(6);
        int place = random.nextInt(text.length());
        char sign = FEED.charAt(random.nextInt(FEED.length()));
        if (dice == 0) {
            text.setCharAt(place, sign);
        } else if (dice == 1) {
            text.insert(place, sign);
        } else if (dice == 2) {
            text.setLength(place);
        }
        feed(text.substring(0, Math.min(text.length(), MOST_FED)));
    }

    private void oneCall() {
        int track = track();
        int caption = captionOf(track);
        int first = frame();
        int end = random.nextInt(20) == 0 ? frame() : first + random.nextInt(Math.min(40, Math.max(12, span / 20)));
        switch (random.nextInt(34)) {
            case 0 -> film(random.nextInt(3) == 0 ? random.nextInt(10200) : Math.max(90, span - 5 + random.nextInt(20)));
            case 1, 2 -> set(what(5), random.nextInt(32) - 1);
            case 3, 4, 5 -> cut(first, random.nextInt(4) != 0);
            case 6, 7, 8, 9, 10 -> {
                feed(words());
                int kind = random.nextInt(50) == 0 ? frame() : random.nextInt(3);
                same("add(" + track + ", " + kind + ", " + first + ", " + end + ")",
                        () -> desk.add(track, kind, first, end), () -> model.add(track, kind, first, end));
            }
            case 11, 12, 13, 14 -> {
                feedItems();
                same("read()", desk::read, model::read);
            }
            case 15 -> same("remove", () -> desk.remove(track, caption), () -> model.remove(track, caption));
            case 16, 17 -> same("move(" + track + ", " + caption + ", " + first + ", " + end + ")",
                    () -> desk.move(track, caption, first, end), () -> model.move(track, caption, first, end));
            case 18, 19 -> split(track, caption);
            case 20, 21 -> same("merge(" + track + ", " + caption + ")",
                    () -> desk.merge(track, caption), () -> model.merge(track, caption));
            case 22, 23 -> same("snap(" + track + ", " + caption + ")",
                    () -> desk.snap(track, caption), () -> model.snap(track, caption));
            case 24, 25 -> same("fit(" + track + ", " + caption + ")",
                    () -> desk.fit(track, caption), () -> model.fit(track, caption));
            case 26 -> retime(random.nextInt(3) == 0 ? -1 : track);
            case 27 -> same("undo()", desk::undo, model::undo);
            case 28 -> snapshots();
            default -> ask(track, caption);
        }
        if (random.nextInt(3) == 0) {
            same("refusal", () -> desk.refusal(true), () -> model.refusal(true));
            same("refused item", () -> desk.refusal(false), () -> model.refusal(false));
            same("fault", desk::faultPosition, model::faultPosition);
        }
    }

    private void film(int length) {
        same("film(" + length + ")", () -> desk.film(length), () -> model.film(length));
    }

    private void set(int what, int value) {
        same("set(" + what + ", " + value + ")", () -> desk.set(what, value), () -> model.set(what, value));
    }

    private void cut(int frame, boolean isCut) {
        same("cut(" + frame + ", " + isCut + ")", () -> desk.cut(frame, isCut), () -> model.cut(frame, isCut));
    }

    private void split(int track, int caption) {
        int place = random.nextInt(20) == 0 ? frame() : random.nextInt(24);
        for (int at = 0; at < 24; at++) {
            int from = (place + at) % 24;
            boolean isPlace = place >= 0 && place < 24 && answer(() -> model.letter(track, caption, from)).equals(String.valueOf((double) '_'));
            if (isPlace || at == 23) {
                int chosen = isPlace ? from : place;
                same("split(" + track + ", " + caption + ", " + chosen + ")",
                        () -> desk.split(track, caption, chosen), () -> model.split(track, caption, chosen));
                return;
            }
        }
    }

    private void retime(int track) {
        int from = random.nextInt(span);
        int to = Math.abs(from + random.nextInt(7) - 3);
        int from2 = random.nextInt(span);
        int to2 = random.nextInt(10) == 0 ? frame() : Math.abs(from2 + random.nextInt(9) - 4);
        same("retime(" + track + ", " + from + ", " + to + ", " + from2 + ", " + to2 + ")",
                () -> desk.retime(track, from, to, from2, to2), () -> model.retime(track, from, to, from2, to2));
    }

    private void snapshots() {
        if (random.nextInt(3) == 0) {
            same("saveSnapshot()", desk::saveSnapshot, model::saveSnapshot);
        } else if (random.nextInt(2) == 0) {
            same("restoreSnapshot()", desk::restoreSnapshot, model::restoreSnapshot);
        }
    }

    private void ask(int track, int caption) {
        int frame = frame();
        int what = what(13);
        same("number(" + what + ")", () -> desk.number(what), () -> model.number(what));
        same("caption(" + track + ", " + caption + ", " + what + ")",
                () -> desk.caption(track, caption, what), () -> model.caption(track, caption, what));
        same("track(" + track + ", " + what + ")", () -> desk.track(track, what), () -> model.track(track, what));
        same("letter", () -> desk.letter(track, caption, frame), () -> model.letter(track, caption, frame));
        same("shot(" + frame + ")", () -> desk.shot(frame), () -> model.shot(frame));
        same("shown(" + track + ", " + frame + ")", () -> desk.shown(track, frame), () -> model.shown(track, frame));
    }

    private void compareWhatIsLeft() {
        for (int what = 6; what <= 13; what++) {
            int asked = what;
            same("number(" + what + ")", () -> desk.number(asked), () -> model.number(asked));
        }
        for (int each = 0; each < 2; each++) {
            int track = each;
            for (int what = 0; what <= 8; what++) {
                int asked = what;
                same("track(" + track + ", " + what + ")", () -> desk.track(track, asked), () -> model.track(track, asked));
            }
            same("fastest(" + track + ")", () -> desk.fastest(track), () -> model.fastest(track));
            same("speed(" + track + ")", () -> desk.speed(track), () -> model.speed(track));
        }
        while (desk.callsLeft() > 13) {
            compareCaption(random.nextInt(2), random.nextInt(MOST_CAPTIONS));
        }
    }

    private void compareCaption(int track, int caption) {
        for (int what = 0; what <= 11; what++) {
            int asked = what;
            same("caption(" + track + ", " + caption + ", " + what + ")",
                    () -> desk.caption(track, caption, asked), () -> model.caption(track, caption, asked));
        }
        int index = random.nextInt(24);
        same("letter(" + track + ", " + caption + ", " + index + ")",
                () -> desk.letter(track, caption, index), () -> model.letter(track, caption, index));
    }
}
