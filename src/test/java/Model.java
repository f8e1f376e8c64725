import java.util.ArrayDeque;
import java.util.ArrayList;
import java.util.Collections;
import java.util.Comparator;
import java.util.Deque;
import java.util.List;
import java.util.NoSuchElementException;
import java.util.TreeSet;
import java.util.regex.Matcher;
import java.util.regex.Pattern;

/** The document once more, written as naively as can be: frame by frame, with sets, lists and patterns. */
final class Model {
    private static final int[] FROM = {5, 0, 0, 0, 0, 5};
    private static final int[] TO = {30, 12, 9, 25, 25, 24};
    private static final Pattern TEXT = Pattern.compile("[a-z_]{1,24}|[a-z_]+\\|[a-z_]+");
    private static final String ITEM = "(?:[ab][.!*][0-9]{1,4}-[0-9]{1,4}:[a-z_|]{1,24}|[cu][0-9]{1,4})";
    private static final Pattern ITEMS = Pattern.compile(ITEM + "(?:;" + ITEM + ")*", Pattern.DOTALL);

    private record Caption(int first, int end, int kind, String text) {
        TreeSet<Integer> frames() {
            TreeSet<Integer> frames = new TreeSet<>();
            for (int frame = first; frame < end; frame++) {
                frames.add(frame);
            }
            return frames;
        }

        int load() {
            return text.replace("|", "").length();
        }

        int longest() {
            int longest = 0;
            for (String line : text.split("\\|")) {
                longest = Math.max(longest, line.length());
            }
            return longest;
        }
    }

    private static final class State {
        int length = 1000;
        int[] settings = {15, 3, 2, 5, 5, 16};
        TreeSet<Integer> cuts = new TreeSet<>();
        List<List<Caption>> tracks = List.of(new ArrayList<>(), new ArrayList<>());

        State copy() {
            State copy = new State();
            copy.length = length;
            copy.settings = settings.clone();
            copy.cuts.addAll(cuts);
            copy.tracks.get(0).addAll(tracks.get(0));
            copy.tracks.get(1).addAll(tracks.get(1));
            return copy;
        }
    }

    private State now = new State();
    private State saved;
    private final Deque<State> before = new ArrayDeque<>();
    private String input = "";
    private int fault = -1;
    private int reason;
    private int item;

    private void changed(State previous) {
        before.push(previous);
        if (before.size() > 8) {
            before.removeLast();
        }
    }

    private UnsupportedOperationException refused(int why, int number) {
        reason = why;
        item = number;
        return new UnsupportedOperationException();
    }

    private void needTrack(int track) {
        if (track != 0 && track != 1) {
            throw new IndexOutOfBoundsException();
        }
    }

    private Caption get(int track, int caption) {
        needTrack(track);
        if (caption < 0 || caption >= now.tracks.get(track).size()) {
            throw new IndexOutOfBoundsException();
        }
        return now.tracks.get(track).get(caption);
    }

    private int put(int track, Caption old, Caption... fresh) {
        List<Caption> captions = now.tracks.get(track);
        captions.remove(old);
        Collections.addAll(captions, fresh);
        captions.sort(Comparator.comparingInt(Caption::first));
        return captions.indexOf(fresh[0]);
    }

    int film(int length) {
        if (length < 100 || length > 9999) {
            throw new IllegalArgumentException();
        }
        for (List<Caption> captions : now.tracks) {
            for (Caption c : captions) {
                if (c.end > length) {
                    throw refused(1, 0);
                }
            }
        }
        for (int cut : now.cuts) {
            if (cut > length - 1) {
                throw refused(1, 0);
            }
        }
        changed(now.copy());
        int previous = now.length;
        now.length = length;
        return previous;
    }

    int set(int what, int value) {
        if (what < 0 || what > 5 || value < FROM[what] || value > TO[what]) {
            throw new IllegalArgumentException();
        }
        changed(now.copy());
        int previous = now.settings[what];
        now.settings[what] = value;
        return previous;
    }

    int cut(int frame, boolean isCut) {
        if (frame < 1 || frame > now.length - 1) {
            throw new IndexOutOfBoundsException();
        }
        TreeSet<Integer> cuts = new TreeSet<>(now.cuts);
        if (isCut) {
            cuts.add(frame);
        } else {
            cuts.remove(frame);
        }
        if (cuts.size() > 20) {
            throw new IllegalStateException();
        }
        changed(now.copy());
        now.cuts = cuts;
        return cuts.size();
    }

    int number(int what) {
        switch (what) {
            case 0, 1, 2, 3, 4, 5:
                return now.settings[what];
            case 6:
                return now.length;
            case 7:
                return now.cuts.size();
            case 8, 9:
                return now.tracks.get(what - 8).size();
            case 10:
                TreeSet<Integer> both = allFrames(0);
                both.retainAll(allFrames(1));
                return both.size();
            case 11:
                return with(0, 63) + with(1, 63);
            case 12:
                return before.size();
            case 13:
                return input.length();
            default:
                throw new IllegalArgumentException();
        }
    }

    private TreeSet<Integer> allFrames(int track) {
        TreeSet<Integer> frames = new TreeSet<>();
        for (Caption c : now.tracks.get(track)) {
            frames.addAll(c.frames());
        }
        return frames;
    }

    int shot(int frame) {
        if (frame < 0 || frame >= now.length) {
            throw new IndexOutOfBoundsException();
        }
        return now.cuts.headSet(frame, true).size();
    }

    int feed(char character) {
        if (input.length() == 60) {
            throw new IllegalStateException();
        }
        input += character;
        return input.length();
    }

    private int whyNot(int track, Caption old, int first, int end) {
        if (first < 0 || end > now.length) {
            return 1;
        }
        if (first >= end) {
            return 2;
        }
        TreeSet<Integer> frames = allFrames(track);
        if (old != null) {
            frames.removeAll(old.frames());
        }
        return frames.subSet(first, end).isEmpty() ? 0 : 3;
    }

    private static boolean valid(String text) {
        return text.length() <= 24 && TEXT.matcher(text).matches();
    }

    private int whyNotAdd(int track, int first, int end, String text) {
        int why = whyNot(track, null, first, end);
        if (why == 0 && !valid(text)) {
            why = 4;
        }
        return why == 0 && now.tracks.get(track).size() == 16 ? 8 : why;
    }

    int add(int track, int kind, int first, int end) {
        String text = input;
        input = "";
        needTrack(track);
        if (kind < 0 || kind > 2) {
            throw new IllegalArgumentException();
        }
        int why = whyNotAdd(track, first, end, text);
        if (why != 0) {
            throw refused(why, 0);
        }
        changed(now.copy());
        return put(track, null, new Caption(first, end, kind, text));
    }

    int remove(int track, int caption) {
        get(track, caption);
        changed(now.copy());
        now.tracks.get(track).remove(caption);
        return now.tracks.get(track).size();
    }

    int move(int track, int caption, int first, int end) {
        Caption c = get(track, caption);
        int why = whyNot(track, c, first, end);
        if (why != 0) {
            throw refused(why, 0);
        }
        changed(now.copy());
        return put(track, c, new Caption(first, end, c.kind, c.text));
    }

    int split(int track, int caption, int place) {
        Caption c = get(track, caption);
        if (place < 0 || place >= c.text.length()) {
            throw new IndexOutOfBoundsException();
        }
        String head = c.text.substring(0, place);
        String tail = c.text.substring(place + 1);
        if ("_|".indexOf(c.text.charAt(place)) < 0 || !valid(head) || !valid(tail)) {
            throw refused(4, 0);
        }
        int load = head.replace("|", "").length();
        int loads = load + tail.replace("|", "").length();
        int frames = Math.max(1, (c.end - c.first) * load / loads);
        if (c.end - c.first - frames < 1) {
            throw refused(2, 0);
        }
        if (now.tracks.get(track).size() == 16) {
            throw refused(8, 0);
        }
        changed(now.copy());
        put(track, c, new Caption(c.first, c.first + frames, c.kind, head),
                new Caption(c.first + frames, c.end, c.kind, tail));
        return frames;
    }

    private int whyNotMerge(int track, int caption) {
        List<Caption> captions = now.tracks.get(track);
        if (caption + 1 >= captions.size()) {
            return 5;
        }
        Caption c = captions.get(caption);
        Caption next = captions.get(caption + 1);
        if (c.kind != next.kind) {
            return 6;
        }
        if (next.first - c.end > now.settings[3]) {
            return 7;
        }
        return valid(c.text + "_" + next.text) ? 0 : 4;
    }

    int merge(int track, int caption) {
        Caption c = get(track, caption);
        int why = whyNotMerge(track, caption);
        if (why != 0) {
            throw refused(why, 0);
        }
        changed(now.copy());
        Caption next = now.tracks.get(track).remove(caption + 1);
        Caption merged = new Caption(c.first, next.end, c.kind, c.text + "_" + next.text);
        put(track, c, merged);
        return merged.load();
    }

    private boolean loose(int frame) {
        if (now.cuts.contains(frame)) {
            return false;
        }
        for (int cut : now.cuts) {
            if (Math.abs(cut - frame) <= now.settings[1]) {
                return true;
            }
        }
        return false;
    }

    private int nearest(int frame) {
        for (int away = 0; away <= 12; away++) {
            if (now.cuts.contains(frame - away)) {
                return frame - away;
            }
            if (now.cuts.contains(frame + away)) {
                return frame + away;
            }
        }
        throw new AssertionError();
    }

    int snap(int track, int caption) {
        Caption c = get(track, caption);
        int first = loose(c.first) ? nearest(c.first) : c.first;
        int end = loose(c.end) ? nearest(c.end) : c.end;
        int why = whyNot(track, c, first, end);
        if (why != 0) {
            throw refused(why, 0);
        }
        int moved = (loose(c.first) ? 1 : 0) + (loose(c.end) ? 2 : 0);
        changed(now.copy());
        put(track, c, new Caption(first, end, c.kind, c.text));
        return moved;
    }

    int fit(int track, int caption) {
        Caption c = get(track, caption);
        changed(now.copy());
        int end = c.end;
        while (end - c.first < needs(c) && canEndLater(track, caption, end)) {
            end++;
        }
        put(track, c, new Caption(c.first, end, c.kind, c.text));
        return end - c.end;
    }

    private boolean canEndLater(int track, int caption, int end) {
        List<Caption> captions = now.tracks.get(track);
        boolean nextIsNear = caption + 1 < captions.size()
                && captions.get(caption + 1).first - (end + 1) < now.settings[2];
        return end + 1 <= now.length && !now.cuts.contains(end) && !nextIsNear;
    }

    private static int retimed(int frame, int u, int v, int x, int y) {
        java.math.BigInteger two = java.math.BigInteger.TWO;
        long top = (long) (frame - u) * (y - v);
        long bottom = x - u;
        if (bottom < 0) {
            top = -top;
            bottom = -bottom;
        }
        java.math.BigInteger doubled = java.math.BigInteger.valueOf(top).multiply(two).add(java.math.BigInteger.valueOf(bottom));
        java.math.BigInteger[] parts = doubled.divideAndRemainder(java.math.BigInteger.valueOf(bottom).multiply(two));
        int floor = parts[0].intValueExact();
        return v + (parts[1].signum() < 0 ? floor - 1 : floor);
    }

    int retime(int track, int from, int to, int from2, int to2) {
        if (track < -1 || track > 1) {
            throw new IndexOutOfBoundsException();
        }
        for (int point : new int[] {from, to, from2, to2}) {
            if (point < 0 || point > 9999) {
                throw new IllegalArgumentException();
            }
        }
        if (Integer.signum(from - from2) * Integer.signum(to - to2) != 1) {
            throw new IllegalArgumentException();
        }
        State after = now.copy();
        int different = 0;
        TreeSet<Integer> reasons = new TreeSet<>();
        for (int t = 0; t < 2; t++) {
            for (int i = 0; i < after.tracks.get(t).size() && (track == -1 || track == t); i++) {
                Caption c = after.tracks.get(t).get(i);
                Caption then = new Caption(retimed(c.first, from, to, from2, to2),
                        retimed(c.end, from, to, from2, to2), c.kind, c.text);
                if (then.first < 0 || then.end > now.length) {
                    reasons.add(1);
                } else if (then.first >= then.end) {
                    reasons.add(2);
                }
                different += then.equals(c) ? 0 : 1;
                after.tracks.get(t).set(i, then);
            }
        }
        if (!reasons.isEmpty()) {
            throw refused(reasons.first(), 0);
        }
        changed(now);
        now = after;
        return different;
    }

    private int needs(Caption c) {
        int frames = 0;
        while (frames * now.settings[0] < (c.kind == 2 ? 20 : 25) * c.load()) {
            frames++;
        }
        return c.kind == 1 ? frames - frames / 2 : frames;
    }

    private int shares(Caption c, Caption other) {
        TreeSet<Integer> frames = c.frames();
        frames.retainAll(other.frames());
        return frames.size();
    }

    private int partner(int track, Caption c) {
        List<Caption> others = now.tracks.get(1 - track);
        int partner = -1;
        for (int i = others.size() - 1; i >= 0; i--) {
            int most = partner < 0 ? 1 : shares(c, others.get(partner));
            if (shares(c, others.get(i)) >= most) {
                partner = i;
            }
        }
        return partner;
    }

    private int problems(int track, int caption) {
        Caption c = get(track, caption);
        int sum = c.frames().size() < needs(c) ? 1 : 0;
        sum |= loose(c.first) ? 2 : 0;
        sum |= loose(c.end) ? 4 : 0;
        int gap = gap(track, caption);
        sum |= gap >= 1 && gap < now.settings[2] ? 8 : 0;
        sum |= c.longest() > now.settings[5] ? 16 : 0;
        int partner = partner(track, c);
        boolean inStep = false;
        if (partner >= 0) {
            Caption other = now.tracks.get(1 - track).get(partner);
            inStep = Math.abs(other.first - c.first) <= now.settings[4] && Math.abs(other.end - c.end) <= now.settings[4];
        }
        return sum | (c.kind != 1 && !inStep ? 32 : 0);
    }

    private int gap(int track, int caption) {
        return caption == 0 ? -1 : get(track, caption).first - get(track, caption - 1).end;
    }

    private int cutsOver(Caption c) {
        int over = 0;
        for (int frame = c.first + 1; frame < c.end; frame++) {
            over += now.cuts.contains(frame) ? 1 : 0;
        }
        return over;
    }

    int caption(int track, int caption, int what) {
        Caption c = get(track, caption);
        int partner = partner(track, c);
        return switch (what) {
            case 0 -> c.first;
            case 1 -> c.end;
            case 2 -> c.kind;
            case 3 -> c.load();
            case 4 -> needs(c);
            case 5 -> problems(track, caption);
            case 6 -> partner;
            case 7 -> c.text.length();
            case 8 -> c.longest();
            case 9 -> cutsOver(c);
            case 10 -> gap(track, caption);
            case 11 -> partner < 0 ? 0 : shares(c, now.tracks.get(1 - track).get(partner));
            default -> throw new IllegalArgumentException();
        };
    }

    char letter(int track, int caption, int index) {
        Caption c = get(track, caption);
        if (index < 0 || index >= c.text.length()) {
            throw new NoSuchElementException();
        }
        return c.text.charAt(index);
    }

    int shown(int track, int frame) {
        needTrack(track);
        if (frame < 0 || frame >= now.length) {
            throw new IndexOutOfBoundsException();
        }
        for (int i = 0; i < now.tracks.get(track).size(); i++) {
            if (now.tracks.get(track).get(i).frames().contains(frame)) {
                return i;
            }
        }
        throw new NoSuchElementException();
    }

    private int with(int track, int mask) {
        int found = 0;
        for (int i = 0; i < now.tracks.get(track).size(); i++) {
            found += (problems(track, i) & mask) != 0 ? 1 : 0;
        }
        return found;
    }

    int track(int track, int what) {
        needTrack(track);
        int sum = 0;
        for (int i = 0; i < now.tracks.get(track).size(); i++) {
            Caption c = now.tracks.get(track).get(i);
            sum += what == 1 ? c.load() : what == 7 ? Math.min(1, cutsOver(c)) : whyNotMerge(track, i) == 0 ? 1 : 0;
        }
        return switch (what) {
            case 0 -> allFrames(track).size();
            case 1, 7, 8 -> sum;
            case 2 -> with(track, 1);
            case 3 -> with(track, 6);
            case 4 -> with(track, 8);
            case 5 -> with(track, 16);
            case 6 -> with(track, 32);
            default -> throw new IllegalArgumentException();
        };
    }

    int fastest(int track) {
        needTrack(track);
        List<Caption> captions = now.tracks.get(track);
        for (Caption c : captions) {
            boolean greatest = true;
            for (Caption other : captions) {
                greatest &= c.load() * other.frames().size() >= other.load() * c.frames().size();
            }
            if (greatest) {
                return captions.indexOf(c);
            }
        }
        throw new NoSuchElementException();
    }

    double speed(int track) {
        needTrack(track);
        if (now.tracks.get(track).isEmpty()) {
            throw new ArithmeticException();
        }
        double load = track(track, 1);
        return 25.0 * load / (double) track(track, 0);
    }

    /** A start can be continued if the pattern matches it, or failed only because it wanted more. */
    private static boolean canContinue(String start) {
        Matcher matcher = ITEMS.matcher(start);
        return start.isEmpty() || matcher.matches() || matcher.hitEnd();
    }

    int read() {
        String text = input;
        input = "";
        if (!ITEMS.matcher(text).matches()) {
            fault = 0;
            while (fault < text.length() && canContinue(text.substring(0, fault + 1))) {
                fault++;
            }
            throw new IllegalArgumentException();
        }
        State previous = now.copy();
        String[] items = text.split(";");
        for (int i = 0; i < items.length; i++) {
            int why = carryOut(items[i]);
            if (why != 0) {
                now = previous;
                throw refused(why, i);
            }
        }
        changed(previous);
        return items.length;
    }

    private int carryOut(String text) {
        if (text.charAt(0) == 'c' || text.charAt(0) == 'u') {
            int frame = Integer.parseInt(text.substring(1));
            if (frame < 1 || frame >= now.length) {
                return 1;
            }
            if (text.charAt(0) == 'u') {
                now.cuts.remove(frame);
            } else {
                now.cuts.add(frame);
            }
            return now.cuts.size() > 20 ? 8 : 0;
        }
        int dash = text.indexOf('-');
        int colon = text.indexOf(':');
        int track = text.charAt(0) - 'a';
        int first = Integer.parseInt(text.substring(2, dash));
        int end = Integer.parseInt(text.substring(dash + 1, colon));
        String words = text.substring(colon + 1);
        int why = whyNotAdd(track, first, end, words);
        if (why == 0) {
            put(track, null, new Caption(first, end, ".!*".indexOf(text.charAt(1)), words));
        }
        return why;
    }

    int faultPosition() {
        if (fault < 0) {
            throw new NoSuchElementException();
        }
        return fault;
    }

    int refusal(boolean isReason) {
        if (reason == 0) {
            throw new NoSuchElementException();
        }
        return isReason ? reason : item;
    }

    int undo() {
        if (before.isEmpty()) {
            throw new IllegalStateException();
        }
        now = before.pop();
        return before.size();
    }

    private int captions() {
        return now.tracks.get(0).size() + now.tracks.get(1).size();
    }

    int saveSnapshot() {
        saved = now.copy();
        return captions();
    }

    int restoreSnapshot() {
        if (saved == null) {
            throw new IllegalStateException();
        }
        now = saved.copy();
        before.clear();
        return captions();
    }
}
