import java.util.function.IntSupplier;

/**
 * All that a run of calls leaves behind, part by part. Each part is asked of objects of its own, on which the run is
 * made again: so what uses an object up can be asked too, and no object answers more than 512 calls.
 */
final class Whole {
    private final String film;
    private final String input;
    private final String undone;
    private final String snapshot;
    private final String fault;
    private final String refusal;

    private Whole(String film, String input, String undone, String snapshot, String fault, String refusal) {
        this.film = film;
        this.input = input;
        this.undone = undone;
        this.snapshot = snapshot;
        this.fault = fault;
        this.refusal = refusal;
    }

    static Whole of(Run run) {
        Desk desk = run.made();
        String fault = answer(desk::faultPosition);
        String refusal = answer(() -> desk.refusal(true)) + "/" + answer(() -> desk.refusal(false));
        return new Whole(film(run), input(run), undone(run), snapshot(run), fault, refusal);
    }

    Whole withRefusal(int reason, int item) {
        return new Whole(film, input, undone, snapshot, fault, reason + "/" + item);
    }

    Whole withFault(int position) {
        return new Whole(film, input, undone, snapshot, String.valueOf(position), refusal);
    }

    /** The parts that are not as they are due, empty if all are. */
    String differencesTo(Whole due) {
        return difference("film", film, due.film) + difference("input", input, due.input)
                + difference("what undo brings back", undone, due.undone) + difference("snapshot", snapshot, due.snapshot)
                + difference("fault", fault, due.fault) + difference("refusal", refusal, due.refusal);
    }

    private static String difference(String part, String got, String due) {
        return got.equals(due) ? "" : " " + part + " is [" + got + "], due is [" + due + "]";
    }

    private static String answer(IntSupplier call) {
        try {
            return String.valueOf(call.getAsInt());
        } catch (RuntimeException e) {
            return e.getClass().getSimpleName();
        }
    }

    /** The film with its cuts and captions, the numbers that can be set, and what is told of them. */
    static String film(Run run) {
        StringBuilder all = new StringBuilder();
        Desk desk = run.made();
        for (int what = 0; what <= 11; what++) {
            all.append(desk.number(what)).append(' ');
        }
        for (int cut = 1; cut <= desk.number(7); cut++) {
            all.append("c").append(firstFrameOfShot(run.made(), cut)).append(' ');
        }
        for (int track = 0; track <= 1; track++) {
            for (int what = 0; what <= 8; what++) {
                all.append(desk.track(track, what)).append(' ');
            }
            for (int caption = 0; caption < desk.number(8 + track); caption++) {
                all.append(caption(run.made(), track, caption)).append(' ');
            }
        }
        return all.toString();
    }

    private static int firstFrameOfShot(Desk desk, int shot) {
        int before = 0;
        int within = desk.number(6) - 1;
        while (within - before > 1) {
            int middle = (before + within) / 2;
            if (desk.shot(middle) < shot) {
                before = middle;
            } else {
                within = middle;
            }
        }
        return within;
    }

    private static String caption(Desk desk, int track, int caption) {
        StringBuilder all = new StringBuilder();
        all.append("ab".charAt(track)).append(caption).append('(');
        for (int what = 0; what <= 11; what++) {
            all.append(desk.caption(track, caption, what)).append(',');
        }
        return all.append(Desks.text(desk, track, caption)).append(')').toString();
    }

    /** The input's length, and what comes of it as a text of items and as the text of a caption. */
    private static String input(Run run) {
        Desk read = run.made();
        String items = answer(read::read);
        if (items.equals(IllegalArgumentException.class.getSimpleName())) {
            items = "fault " + answer(read::faultPosition);
        } else if (items.equals(UnsupportedOperationException.class.getSimpleName())) {
            items = "item " + answer(() -> read.refusal(false)) + " refused for " + answer(() -> read.refusal(true));
        }
        Run added = run.then(Desks::clear).then(Run.failing(desk -> desk.add(0, 0, 0, 1)));
        String text = added.made().number(8) == 0 ? "none" : Desks.text(added.made(), 0, 0);
        return run.made().number(13) + " " + items + " " + text;
    }

    private static String undone(Run run) {
        StringBuilder all = new StringBuilder();
        Run back = run;
        for (int left = run.made().number(12); left > 0; left--) {
            back = back.then(Desk::undo);
            all.append(left).append(": ").append(film(back)).append("; ");
        }
        return all.append(answer(back.made()::undo)).toString();
    }

    private static String snapshot(Run run) {
        Desk desk = run.made();
        String answer = answer(desk::restoreSnapshot);
        boolean isThere = answer.matches("[0-9]+");
        return answer + (isThere ? ": " + film(run.then(Desk::restoreSnapshot)) : "");
    }
}
