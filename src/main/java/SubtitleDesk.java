import java.util.NoSuchElementException;

/** A desk for the subtitles of a film; ../shared/DOC.md says what each call promises. */
public final class SubtitleDesk {
    private static final int NONE = -1;

    private static final int LEAST_LENGTH = 100;
    private static final int FIRST_LENGTH = 1000;
    private static final int GREATEST_FRAME = 9999;
    private static final int FRAMES_IN_A_SECOND = 25;
    private static final int FRAMES_IN_A_SECOND_OF_SONG = 20;

    private static final int TRACKS = 2;
    private static final int BOTH_TRACKS = -1;
    private static final int MOST_CAPTIONS = 16;
    private static final int MOST_CUTS = 20;
    private static final int MOST_SIGNS = 24;
    private static final int MOST_INPUT = 60;
    private static final int MOST_DIGITS = 4;
    private static final int MOST_ITEMS = 30;
    private static final int MOST_CHANGES = 8;

    private static final int SPEECH = 0;
    private static final int SIGN = 1;
    private static final int SONG = 2;

    private static final int SPEED = 0;
    private static final int ZONE = 1;
    private static final int LEAST_GAP = 2;
    private static final int MERGE_GAP = 3;
    private static final int TOLERANCE = 4;
    private static final int GREATEST_WIDTH = 5;
    private static final int SETTINGS = 6;
    private static final int[] SETTING_AT_FIRST = {15, 3, 2, 5, 5, 16};
    private static final int[] SETTING_FROM = {5, 0, 0, 0, 0, 5};
    private static final int[] SETTING_TO = {30, 12, 9, 25, 25, 24};

    private static final int TOO_SHORT = 1;
    private static final int LOOSE_FIRST = 2;
    private static final int LOOSE_END = 4;
    private static final int TIGHT = 8;
    private static final int TOO_WIDE = 16;
    private static final int OUT_OF_STEP = 32;
    private static final int ANY_PROBLEM = 63;

    private static final int NO_REFUSAL = 0;
    private static final int NOT_IN_FILM = 1;
    private static final int NO_FRAMES = 2;
    private static final int SHARES_FRAMES = 3;
    private static final int BAD_TEXT = 4;
    private static final int NO_NEXT = 5;
    private static final int OTHER_KIND = 6;
    private static final int GAP_TOO_GREAT = 7;
    private static final int TOO_MANY = 8;

    private static final int ADD_ITEM = 0;
    private static final int CUT_ITEM = 1;
    private static final int UNCUT_ITEM = 2;

    private final Film film;
    private final Figures figures;
    private final Edits edits;
    private final History history;
    private final Film snapshot;
    private boolean hasSnapshot;
    private final Text input;
    private final Text words;
    private final Reader reader;
    private int faultKept;
    private int reasonKept;
    private int itemKept;

    public SubtitleDesk() {
        film = new Film();
        figures = new Figures(film);
        edits = new Edits(film, figures);
        history = new History();
        snapshot = new Film();
        hasSnapshot = false;
        input = new Text();
        words = new Text();
        reader = new Reader();
        faultKept = NONE;
        reasonKept = NO_REFUSAL;
        itemKept = 0;
    }

    // ---- film and settings

    public int film(int length) throws IllegalArgumentException, UnsupportedOperationException {
        if (length < LEAST_LENGTH || length > GREATEST_FRAME) {
            throw new IllegalArgumentException("the length is out of range");
        }
        passOrRefuse(film.lengthRefusal(length));
        history.keep(film);
        int previous = film.length;
        film.length = length;
        return previous;
    }

    public int set(int what, int value) throws IllegalArgumentException {
        if (!isSettingValue(what, value)) {
            throw new IllegalArgumentException("what or the number is out of range");
        }
        history.keep(film);
        return film.changeSetting(what, value);
    }

    public int cut(int frame, boolean isCut) throws IndexOutOfBoundsException, IllegalStateException {
        if (!film.canBeCut(frame)) {
            throw new IndexOutOfBoundsException("no such frame for a cut");
        }
        if (isCut && film.cuts.lacksRoomFor(frame)) {
            throw new IllegalStateException("there are as many cuts as there can be");
        }
        history.keep(film);
        if (isCut) {
            film.cuts.make(frame);
        } else {
            film.cuts.takeAway(frame);
        }
        return film.cuts.count;
    }

    public int number(int what) throws IllegalArgumentException {
        switch (what) {
            case 6:
                return film.length;
            case 7:
                return film.cuts.count;
            case 8:
                return film.trackOf(0).count;
            case 9:
                return film.trackOf(1).count;
            case 10:
                return figures.framesOfBoth();
            case 11:
                return figures.captionsWith(0, ANY_PROBLEM) + figures.captionsWith(1, ANY_PROBLEM);
            case 12:
                return history.count;
            case 13:
                return input.size;
            default:
                break;
        }
        if (!isSetting(what)) {
            throw new IllegalArgumentException("what is out of range");
        }
        return film.setting(what);
    }

    public int shot(int frame) throws IndexOutOfBoundsException {
        if (!film.hasFrame(frame)) {
            throw new IndexOutOfBoundsException("no such frame");
        }
        return film.cuts.upTo(frame);
    }

    // ---- captions

    public int feed(char character) throws IllegalStateException {
        if (!input.append(character)) {
            throw new IllegalStateException("the input is full");
        }
        return input.size;
    }

    public int add(int track, int kind, int first, int end)
            throws IndexOutOfBoundsException, IllegalArgumentException, UnsupportedOperationException {
        words.clear();
        words.appendPart(input, 0, input.size);
        input.clear();
        requireTrack(track);
        if (kind < SPEECH || kind > SONG) {
            throw new IllegalArgumentException("no such kind");
        }
        passOrRefuse(film.addRefusal(track, first, end, words));
        history.keep(film);
        return film.trackOf(track).insertCaption(kind, first, end, words);
    }

    public int remove(int track, int caption) throws IndexOutOfBoundsException {
        requireCaption(track, caption);
        history.keep(film);
        Track captions = film.trackOf(track);
        captions.closeRow(caption);
        return captions.count;
    }

    public int move(int track, int caption, int first, int end)
            throws IndexOutOfBoundsException, UnsupportedOperationException {
        requireCaption(track, caption);
        passOrRefuse(film.placeRefusal(track, caption, first, end));
        history.keep(film);
        return edits.placeCaption(track, caption, first, end);
    }

    public int split(int track, int caption, int place)
            throws IndexOutOfBoundsException, UnsupportedOperationException {
        requireCaption(track, caption);
        if (place < 0 || place >= film.trackOf(track).size(caption)) {
            throw new IndexOutOfBoundsException("no such character");
        }
        passOrRefuse(edits.splitRefusal(track, caption, place));
        history.keep(film);
        return edits.splitCaption(track, caption, place);
    }

    public int merge(int track, int caption)
            throws IndexOutOfBoundsException, UnsupportedOperationException {
        requireCaption(track, caption);
        passOrRefuse(figures.mergeRefusal(track, caption));
        history.keep(film);
        return edits.mergeCaption(track, caption);
    }

    public int snap(int track, int caption)
            throws IndexOutOfBoundsException, UnsupportedOperationException {
        requireCaption(track, caption);
        passOrRefuse(edits.snapRefusal(track, caption));
        history.keep(film);
        return edits.snapCaption(track, caption);
    }

    public int fit(int track, int caption) throws IndexOutOfBoundsException {
        requireCaption(track, caption);
        history.keep(film);
        return edits.fitCaption(track, caption);
    }

    public int retime(int track, int from, int to, int from2, int to2)
            throws IndexOutOfBoundsException, IllegalArgumentException, UnsupportedOperationException {
        if (track != BOTH_TRACKS) {
            requireTrack(track);
        }
        if (!arePoints(from, to, from2, to2)) {
            throw new IllegalArgumentException("the points tell no retiming");
        }
        Retiming retiming = new Retiming(from, to, from2, to2);
        passOrRefuse(edits.retimeRefusal(track, retiming));
        history.keep(film);
        return edits.retimeCaptions(track, retiming);
    }

    // ---- what is told

    public int caption(int track, int caption, int what)
            throws IndexOutOfBoundsException, IllegalArgumentException {
        requireCaption(track, caption);
        Track captions = film.trackOf(track);
        switch (what) {
            case 0:
                return captions.first(caption);
            case 1:
                return captions.end(caption);
            case 2:
                return captions.kind(caption);
            case 3:
                return captions.load(caption);
            case 4:
                return figures.needs(track, caption);
            case 5:
                return figures.problems(track, caption);
            case 6:
                return figures.partner(track, caption);
            case 7:
                return captions.size(caption);
            case 8:
                return captions.longestLine(caption);
            case 9:
                return figures.cutsWithin(track, caption);
            case 10:
                return captions.gapBefore(caption);
            case 11:
                return figures.sharedWithPartner(track, caption);
            default:
                throw new IllegalArgumentException("what is out of range");
        }
    }

    public char letter(int track, int caption, int index)
            throws IndexOutOfBoundsException, NoSuchElementException {
        requireCaption(track, caption);
        int sign = film.trackOf(track).signAt(caption, index);
        if (sign == NONE) {
            throw new NoSuchElementException("no such character");
        }
        return (char) sign;
    }

    public int shown(int track, int frame) throws IndexOutOfBoundsException, NoSuchElementException {
        requireTrack(track);
        if (!film.hasFrame(frame)) {
            throw new IndexOutOfBoundsException("no such frame");
        }
        int caption = film.trackOf(track).captionOn(frame);
        if (caption == NONE) {
            throw new NoSuchElementException("no caption is shown");
        }
        return caption;
    }

    public int track(int track, int what) throws IndexOutOfBoundsException, IllegalArgumentException {
        requireTrack(track);
        switch (what) {
            case 0:
                return film.trackOf(track).allFrames();
            case 1:
                return film.trackOf(track).allLoad();
            case 2:
                return figures.captionsWith(track, TOO_SHORT);
            case 3:
                return figures.captionsWith(track, LOOSE_FIRST | LOOSE_END);
            case 4:
                return figures.captionsWith(track, TIGHT);
            case 5:
                return figures.captionsWith(track, TOO_WIDE);
            case 6:
                return figures.captionsWith(track, OUT_OF_STEP);
            case 7:
                return figures.captionsOverCuts(track);
            case 8:
                return figures.captionsToMerge(track);
            default:
                throw new IllegalArgumentException("what is out of range");
        }
    }

    public int fastest(int track) throws IndexOutOfBoundsException, NoSuchElementException {
        requireTrack(track);
        int caption = film.trackOf(track).densest();
        if (caption == NONE) {
            throw new NoSuchElementException("the track has no captions");
        }
        return caption;
    }

    public double speed(int track) throws IndexOutOfBoundsException, ArithmeticException {
        requireTrack(track);
        int frames = film.trackOf(track).allFrames();
        if (frames <= 0) {
            throw new ArithmeticException("the track has no captions");
        }
        return 25.0 * (double) film.trackOf(track).allLoad() / (double) frames;
    }

    // ---- texts of items

    public int read() throws IllegalArgumentException, UnsupportedOperationException {
        boolean isText = reader.readText(input);
        boolean isCarriedOut = isText && carryOutItems();
        input.clear();
        if (!isText) {
            faultKept = reader.position;
            throw new IllegalArgumentException("the input is no text of items");
        }
        if (!isCarriedOut) {
            throw new UnsupportedOperationException("an item is refused");
        }
        return reader.count;
    }

    public int faultPosition() throws NoSuchElementException {
        if (faultKept == NONE) {
            throw new NoSuchElementException("no fault position was kept");
        }
        return faultKept;
    }

    public int refusal(boolean isReason) throws NoSuchElementException {
        if (reasonKept == NO_REFUSAL) {
            throw new NoSuchElementException("nothing was refused");
        }
        return isReason ? reasonKept : itemKept;
    }

    // ---- undo, snapshots

    public int undo() throws IllegalStateException {
        if (history.count <= 0) {
            throw new IllegalStateException("there is no change to undo");
        }
        history.undoInto(film);
        return history.count;
    }

    public int saveSnapshot() {
        snapshot.copyFrom(film);
        hasSnapshot = true;
        return film.captionCount();
    }

    public int restoreSnapshot() throws IllegalStateException {
        if (!hasSnapshot) {
            throw new IllegalStateException("there is no snapshot");
        }
        film.copyFrom(snapshot);
        history.forgetAll();
        return film.captionCount();
    }

    // ---- what the calls have in common

    private void requireTrack(int track) {
        if (!isTrack(track)) {
            throw new IndexOutOfBoundsException("no such track");
        }
    }

    private void requireCaption(int track, int caption) {
        requireTrack(track);
        if (!film.trackOf(track).has(caption)) {
            throw new IndexOutOfBoundsException("no such caption");
        }
    }

    private void passOrRefuse(int reason) {
        if (reason != NO_REFUSAL) {
            keepRefusal(reason, 0);
            throw new UnsupportedOperationException("the edit is refused");
        }
    }

    private void keepRefusal(int reason, int item) {
        reasonKept = reason;
        itemKept = item;
    }

    /** Carries out all items or none, and tells whether it was all. */
    private boolean carryOutItems() {
        history.prepare(film);
        for (int item = 0; item < reader.count; item++) {
            int reason = carryOutItem(item);
            if (reason != NO_REFUSAL) {
                history.takeBackInto(film);
                keepRefusal(reason, item);
                return false;
            }
        }
        history.commit();
        return true;
    }

    private int carryOutItem(int item) {
        if (reader.what(item) != ADD_ITEM) {
            return edits.carryOutCut(reader.first(item), reader.what(item) == CUT_ITEM);
        }
        words.clear();
        words.appendPart(input, reader.wordsFrom(item), reader.wordsTo(item));
        int reason = film.addRefusal(reader.trackOfItem(item), reader.first(item), reader.end(item), words);
        if (reason == NO_REFUSAL) {
            Track captions = film.trackOf(reader.trackOfItem(item));
            captions.insertCaption(reader.kind(item), reader.first(item), reader.end(item), words);
        }
        return reason;
    }

    private static boolean isTrack(int track) {
        return track >= 0 && track < TRACKS;
    }

    private static boolean isSetting(int what) {
        return what >= 0 && what < SETTINGS;
    }

    private static boolean isSettingValue(int what, int value) {
        return isSetting(what) && value >= SETTING_FROM[what] && value <= SETTING_TO[what];
    }

    private static boolean arePoints(int from, int to, int from2, int to2) {
        if (!isPointFrame(from) || !isPointFrame(to) || !isPointFrame(from2) || !isPointFrame(to2)) {
            return false;
        }
        return from != from2 && to != to2 && (from < from2) == (to < to2);
    }

    private static boolean isPointFrame(int frame) {
        return frame >= 0 && frame <= GREATEST_FRAME;
    }

    private static boolean isWordSign(int sign) {
        return sign == '_' || sign == '|' || (sign >= 'a' && sign <= 'z');
    }

    private static int distance(int frame, int other) {
        return Math.abs(frame - other);
    }

    private static int dividedUp(int dividend, int divisor) {
        return divisor > 0 ? (dividend + divisor - 1) / divisor : 0;
    }

    /** A row of characters that is used again and again: the input, or the text that an edit works with. */
    private static final class Text {
        final int[] signs;
        int size;

        Text() {
            signs = new int[MOST_INPUT];
            size = 0;
        }

        void clear() {
            size = 0;
        }

        boolean append(int sign) {
            if (size < 0 || size >= signs.length) {
                return false;
            }
            signs[size] = sign;
            size++;
            return true;
        }

        void appendPart(Text other, int from, int to) {
            for (int i = from; i < to; i++) {
                int sign = other.signAt(i);
                if (sign != NONE) {
                    append(sign);
                }
            }
        }

        int signAt(int index) {
            return index >= 0 && index < size && index < signs.length ? signs[index] : NONE;
        }

        boolean isValid() {
            if (size < 1 || size > MOST_SIGNS) {
                return false;
            }
            int breaks = 0;
            for (int i = 0; i < size; i++) {
                int sign = signAt(i);
                if (!isWordSign(sign)) {
                    return false;
                }
                if (sign == '|') {
                    breaks++;
                }
            }
            return breaks <= 1 && signAt(0) != '|' && signAt(size - 1) != '|';
        }
    }

    /** The cuts of a film, in the order of time. */
    private static final class Cuts {
        final int[] frames;
        int count;

        Cuts() {
            frames = new int[MOST_CUTS];
            count = 0;
        }

        void copyFrom(Cuts other) {
            System.arraycopy(other.frames, 0, frames, 0, MOST_CUTS);
            count = other.count;
        }

        int at(int index) {
            return index >= 0 && index < count && index < frames.length ? frames[index] : NONE;
        }

        int upTo(int frame) {
            int found = 0;
            for (int i = 0; i < count && i < frames.length; i++) {
                if (frames[i] <= frame) {
                    found++;
                }
            }
            return found;
        }

        boolean holds(int frame) {
            return upTo(frame) > upTo(frame - 1);
        }

        int firstFrom(int frame) {
            return at(upTo(frame - 1));
        }

        /** The nearest cut, of two equally near ones the former, NONE if there are no cuts. */
        int nearest(int frame) {
            int best = NONE;
            for (int i = 0; i < count; i++) {
                if (best == NONE || distance(at(i), frame) < distance(best, frame)) {
                    best = at(i);
                }
            }
            return best;
        }

        boolean lacksRoomFor(int frame) {
            return count >= MOST_CUTS && !holds(frame);
        }

        void make(int frame) {
            if (holds(frame) || count < 0 || count >= frames.length) {
                return;
            }
            int place = count;
            while (place > 0 && frames[place - 1] > frame) {
                frames[place] = frames[place - 1];
                place--;
            }
            frames[place] = frame;
            count++;
        }

        void takeAway(int frame) {
            if (!holds(frame)) {
                return;
            }
            for (int i = upTo(frame); i > 0 && i < count && i < frames.length; i++) {
                frames[i - 1] = frames[i];
            }
            count--;
        }
    }

    /** The captions of one language, a row each, in the order of time. */
    private static final class Track {
        final int[] firsts;
        final int[] ends;
        final int[] kinds;
        final int[] sizes;
        final int[] signs;
        int count;

        Track() {
            firsts = new int[MOST_CAPTIONS];
            ends = new int[MOST_CAPTIONS];
            kinds = new int[MOST_CAPTIONS];
            sizes = new int[MOST_CAPTIONS];
            signs = new int[MOST_CAPTIONS * MOST_SIGNS];
            count = 0;
        }

        void copyFrom(Track other) {
            System.arraycopy(other.firsts, 0, firsts, 0, MOST_CAPTIONS);
            System.arraycopy(other.ends, 0, ends, 0, MOST_CAPTIONS);
            System.arraycopy(other.kinds, 0, kinds, 0, MOST_CAPTIONS);
            System.arraycopy(other.sizes, 0, sizes, 0, MOST_CAPTIONS);
            System.arraycopy(other.signs, 0, signs, 0, MOST_CAPTIONS * MOST_SIGNS);
            count = other.count;
        }

        boolean has(int caption) {
            return caption >= 0 && caption < count && caption < MOST_CAPTIONS;
        }

        int first(int caption) {
            return has(caption) ? firsts[caption] : 0;
        }

        int end(int caption) {
            return has(caption) ? ends[caption] : 0;
        }

        int kind(int caption) {
            return has(caption) ? kinds[caption] : SPEECH;
        }

        int size(int caption) {
            return has(caption) ? sizes[caption] : 0;
        }

        int frames(int caption) {
            return end(caption) - first(caption);
        }

        int signAt(int caption, int index) {
            if (!has(caption) || index < 0 || index >= sizes[caption] || index >= MOST_SIGNS) {
                return NONE;
            }
            return signs[caption * MOST_SIGNS + index];
        }

        int load(int caption) {
            return loadBetween(caption, 0, size(caption));
        }

        int loadBetween(int caption, int from, int to) {
            int load = 0;
            for (int i = from; i < to; i++) {
                if (signAt(caption, i) != '|') {
                    load++;
                }
            }
            return load;
        }

        int longestLine(int caption) {
            int longest = 0;
            int line = 0;
            for (int i = 0; i < size(caption); i++) {
                line = signAt(caption, i) == '|' ? 0 : line + 1;
                longest = Math.max(longest, line);
            }
            return longest;
        }

        /** The frames between a caption and the one before it, NONE for the first one. */
        int gapBefore(int caption) {
            return has(caption - 1) ? first(caption) - end(caption - 1) : NONE;
        }

        int shared(int caption, int first, int end) {
            if (!has(caption)) {
                return 0;
            }
            return Math.max(0, Math.min(end, ends[caption]) - Math.max(first, firsts[caption]));
        }

        boolean sharesWithOthers(int itself, int first, int end) {
            for (int i = 0; i < count; i++) {
                if (i != itself && shared(i, first, end) > 0) {
                    return true;
                }
            }
            return false;
        }

        int captionOn(int frame) {
            for (int i = 0; i < count; i++) {
                if (first(i) <= frame && frame < end(i)) {
                    return i;
                }
            }
            return NONE;
        }

        int allFrames() {
            int sum = 0;
            for (int i = 0; i < count; i++) {
                sum += frames(i);
            }
            return sum;
        }

        int allLoad() {
            int sum = 0;
            for (int i = 0; i < count; i++) {
                sum += load(i);
            }
            return sum;
        }

        /** The caption with the greatest load for each frame; multiplied crosswise, as a quotient would round. */
        int densest() {
            int best = NONE;
            for (int i = 0; i < count; i++) {
                if (best == NONE || load(i) * frames(best) > load(best) * frames(i)) {
                    best = i;
                }
            }
            return best;
        }

        void appendTextTo(Text text, int caption, int from, int to) {
            for (int i = from; i < to; i++) {
                int sign = signAt(caption, i);
                if (sign != NONE) {
                    text.append(sign);
                }
            }
        }

        void setFrames(int caption, int first, int end) {
            if (has(caption)) {
                firsts[caption] = first;
                ends[caption] = end;
            }
        }

        void setText(int caption, Text text) {
            if (!has(caption)) {
                return;
            }
            sizes[caption] = Math.min(text.size, MOST_SIGNS);
            for (int i = 0; i < sizes[caption] && i < MOST_SIGNS; i++) {
                signs[caption * MOST_SIGNS + i] = text.signAt(i);
            }
        }

        int insertCaption(int kind, int first, int end, Text text) {
            int place = 0;
            while (place < count && first(place) < first) {
                place++;
            }
            if (!isRow(place) || !isRow(count)) {
                return NONE;
            }
            for (int i = count; i > place; i--) {
                copyRow(i - 1, i);
            }
            count++;
            kinds[place] = kind;
            setFrames(place, first, end);
            setText(place, text);
            return place;
        }

        void closeRow(int caption) {
            if (!has(caption)) {
                return;
            }
            for (int i = caption + 1; i < count; i++) {
                copyRow(i, i - 1);
            }
            count--;
        }

        private void copyRow(int from, int to) {
            if (!isRow(from) || !isRow(to)) {
                return;
            }
            firsts[to] = firsts[from];
            ends[to] = ends[from];
            kinds[to] = kinds[from];
            sizes[to] = sizes[from];
            System.arraycopy(signs, from * MOST_SIGNS, signs, to * MOST_SIGNS, MOST_SIGNS);
        }

        private static boolean isRow(int row) {
            return row >= 0 && row < MOST_CAPTIONS;
        }
    }

    /** All that changes, undo and snapshots are about. */
    private static final class Film {
        int length;
        final int[] settings;
        final Cuts cuts;
        final Track trackZero;
        final Track trackOne;

        Film() {
            length = FIRST_LENGTH;
            settings = new int[SETTINGS];
            System.arraycopy(SETTING_AT_FIRST, 0, settings, 0, SETTINGS);
            cuts = new Cuts();
            trackZero = new Track();
            trackOne = new Track();
        }

        void copyFrom(Film other) {
            length = other.length;
            System.arraycopy(other.settings, 0, settings, 0, SETTINGS);
            cuts.copyFrom(other.cuts);
            trackZero.copyFrom(other.trackZero);
            trackOne.copyFrom(other.trackOne);
        }

        Track trackOf(int track) {
            return track == 0 ? trackZero : trackOne;
        }

        Track trackBeside(int track) {
            return track == 0 ? trackOne : trackZero;
        }

        int captionCount() {
            return trackZero.count + trackOne.count;
        }

        int setting(int what) {
            return isSetting(what) ? settings[what] : 0;
        }

        int changeSetting(int what, int value) {
            int previous = setting(what);
            if (isSetting(what)) {
                settings[what] = value;
            }
            return previous;
        }

        boolean hasFrame(int frame) {
            return frame >= 0 && frame < length;
        }

        boolean canBeCut(int frame) {
            return frame >= 1 && frame < length;
        }

        boolean isLoose(int frame) {
            int nearest = cuts.nearest(frame);
            return nearest != NONE && nearest != frame && distance(nearest, frame) <= setting(ZONE);
        }

        int lengthRefusal(int wanted) {
            for (int track = 0; track < TRACKS; track++) {
                Track captions = trackOf(track);
                if (captions.end(captions.count - 1) > wanted) {
                    return NOT_IN_FILM;
                }
            }
            return cuts.at(cuts.count - 1) >= wanted ? NOT_IN_FILM : NO_REFUSAL;
        }

        int spanRefusal(int first, int end) {
            if (first < 0 || end > length) {
                return NOT_IN_FILM;
            }
            return first >= end ? NO_FRAMES : NO_REFUSAL;
        }

        /** The caption itself is NONE when it is still to be added. */
        int placeRefusal(int track, int itself, int first, int end) {
            int reason = spanRefusal(first, end);
            if (reason == NO_REFUSAL && trackOf(track).sharesWithOthers(itself, first, end)) {
                reason = SHARES_FRAMES;
            }
            return reason;
        }

        int addRefusal(int track, int first, int end, Text text) {
            int reason = placeRefusal(track, NONE, first, end);
            if (reason != NO_REFUSAL) {
                return reason;
            }
            if (!text.isValid()) {
                return BAD_TEXT;
            }
            return trackOf(track).count >= MOST_CAPTIONS ? TOO_MANY : NO_REFUSAL;
        }
    }

    /** What is told of a film, but never changed. */
    private static final class Figures {
        final Film film;
        final Text joined;

        Figures(Film film) {
            this.film = film;
            joined = new Text();
        }

        int needs(int track, int caption) {
            Track captions = film.trackOf(track);
            int rate = captions.kind(caption) == SONG ? FRAMES_IN_A_SECOND_OF_SONG : FRAMES_IN_A_SECOND;
            int frames = dividedUp(rate * captions.load(caption), film.setting(SPEED));
            return captions.kind(caption) == SIGN ? dividedUp(frames, 2) : frames;
        }

        int partner(int track, int caption) {
            Track captions = film.trackOf(track);
            Track others = film.trackBeside(track);
            int best = NONE;
            int most = 0;
            for (int i = 0; i < others.count; i++) {
                int shared = others.shared(i, captions.first(caption), captions.end(caption));
                if (shared > most) {
                    most = shared;
                    best = i;
                }
            }
            return best;
        }

        int sharedWithPartner(int track, int caption) {
            int partner = partner(track, caption);
            if (partner == NONE) {
                return 0;
            }
            Track captions = film.trackOf(track);
            return film.trackBeside(track).shared(partner, captions.first(caption), captions.end(caption));
        }

        boolean isInStep(int track, int caption) {
            int partner = partner(track, caption);
            if (partner == NONE) {
                return false;
            }
            Track captions = film.trackOf(track);
            Track others = film.trackBeside(track);
            int tolerance = film.setting(TOLERANCE);
            return distance(captions.first(caption), others.first(partner)) <= tolerance
                    && distance(captions.end(caption), others.end(partner)) <= tolerance;
        }

        boolean isTight(int track, int caption) {
            int gap = film.trackOf(track).gapBefore(caption);
            return gap > 0 && gap < film.setting(LEAST_GAP);
        }

        int problems(int track, int caption) {
            Track captions = film.trackOf(track);
            int sum = 0;
            if (captions.frames(caption) < needs(track, caption)) {
                sum += TOO_SHORT;
            }
            if (film.isLoose(captions.first(caption))) {
                sum += LOOSE_FIRST;
            }
            if (film.isLoose(captions.end(caption))) {
                sum += LOOSE_END;
            }
            if (isTight(track, caption)) {
                sum += TIGHT;
            }
            if (captions.longestLine(caption) > film.setting(GREATEST_WIDTH)) {
                sum += TOO_WIDE;
            }
            if (captions.kind(caption) != SIGN && !isInStep(track, caption)) {
                sum += OUT_OF_STEP;
            }
            return sum;
        }

        /** Counts the captions that have at least one of the problems. */
        int captionsWith(int track, int wanted) {
            int found = 0;
            for (int i = 0; i < film.trackOf(track).count; i++) {
                if ((problems(track, i) & wanted) != 0) {
                    found++;
                }
            }
            return found;
        }

        int cutsWithin(int track, int caption) {
            Track captions = film.trackOf(track);
            return film.cuts.upTo(captions.end(caption) - 1) - film.cuts.upTo(captions.first(caption));
        }

        int captionsOverCuts(int track) {
            int found = 0;
            for (int i = 0; i < film.trackOf(track).count; i++) {
                if (cutsWithin(track, i) > 0) {
                    found++;
                }
            }
            return found;
        }

        int captionsToMerge(int track) {
            int found = 0;
            for (int i = 0; i < film.trackOf(track).count; i++) {
                if (mergeRefusal(track, i) == NO_REFUSAL) {
                    found++;
                }
            }
            return found;
        }

        int framesOfBoth() {
            Track captions = film.trackOf(0);
            Track others = film.trackBeside(0);
            int sum = 0;
            for (int i = 0; i < captions.count; i++) {
                for (int j = 0; j < others.count; j++) {
                    sum += others.shared(j, captions.first(i), captions.end(i));
                }
            }
            return sum;
        }

        int mergeRefusal(int track, int caption) {
            Track captions = film.trackOf(track);
            if (!captions.has(caption + 1)) {
                return NO_NEXT;
            }
            if (captions.kind(caption) != captions.kind(caption + 1)) {
                return OTHER_KIND;
            }
            if (captions.gapBefore(caption + 1) > film.setting(MERGE_GAP)) {
                return GAP_TOO_GREAT;
            }
            return joinWithNext(track, caption).isValid() ? NO_REFUSAL : BAD_TEXT;
        }

        Text joinWithNext(int track, int caption) {
            Track captions = film.trackOf(track);
            joined.clear();
            captions.appendTextTo(joined, caption, 0, captions.size(caption));
            joined.append('_');
            captions.appendTextTo(joined, caption + 1, 0, captions.size(caption + 1));
            return joined;
        }
    }

    /** The changes to captions and cuts; each expects that its refusal was asked for before. */
    private static final class Edits {
        final Film film;
        final Figures figures;
        final Text head;
        final Text tail;

        Edits(Film film, Figures figures) {
            this.film = film;
            this.figures = figures;
            head = new Text();
            tail = new Text();
        }

        int placeCaption(int track, int caption, int first, int end) {
            Track captions = film.trackOf(track);
            int kind = captions.kind(caption);
            head.clear();
            captions.appendTextTo(head, caption, 0, captions.size(caption));
            captions.closeRow(caption);
            return captions.insertCaption(kind, first, end, head);
        }

        int splitRefusal(int track, int caption, int place) {
            Track captions = film.trackOf(track);
            int sign = captions.signAt(caption, place);
            if (sign != '_' && sign != '|') {
                return BAD_TEXT;
            }
            divideText(captions, caption, place);
            if (!head.isValid() || !tail.isValid()) {
                return BAD_TEXT;
            }
            if (framesOfHead(captions, caption, place) >= captions.frames(caption)) {
                return NO_FRAMES;
            }
            return captions.count >= MOST_CAPTIONS ? TOO_MANY : NO_REFUSAL;
        }

        int splitCaption(int track, int caption, int place) {
            Track captions = film.trackOf(track);
            int frames = framesOfHead(captions, caption, place);
            int border = captions.first(caption) + frames;
            int end = captions.end(caption);
            divideText(captions, caption, place);
            captions.setFrames(caption, captions.first(caption), border);
            captions.setText(caption, head);
            captions.insertCaption(captions.kind(caption), border, end, tail);
            return frames;
        }

        private void divideText(Track captions, int caption, int place) {
            head.clear();
            captions.appendTextTo(head, caption, 0, place);
            tail.clear();
            captions.appendTextTo(tail, caption, place + 1, captions.size(caption));
        }

        private int framesOfHead(Track captions, int caption, int place) {
            int load = captions.loadBetween(caption, 0, place);
            int loads = load + captions.loadBetween(caption, place + 1, captions.size(caption));
            return loads > 0 ? Math.max(1, captions.frames(caption) * load / loads) : 1;
        }

        int mergeCaption(int track, int caption) {
            Track captions = film.trackOf(track);
            Text joined = figures.joinWithNext(track, caption);
            captions.setFrames(caption, captions.first(caption), captions.end(caption + 1));
            captions.setText(caption, joined);
            captions.closeRow(caption + 1);
            return captions.load(caption);
        }

        private int snapped(int frame) {
            return film.isLoose(frame) ? film.cuts.nearest(frame) : frame;
        }

        int snapRefusal(int track, int caption) {
            Track captions = film.trackOf(track);
            return film.placeRefusal(track, caption,
                    snapped(captions.first(caption)), snapped(captions.end(caption)));
        }

        int snapCaption(int track, int caption) {
            Track captions = film.trackOf(track);
            int first = snapped(captions.first(caption));
            int end = snapped(captions.end(caption));
            int moved = (first != captions.first(caption) ? 1 : 0) + (end != captions.end(caption) ? 2 : 0);
            placeCaption(track, caption, first, end);
            return moved;
        }

        int fitCaption(int track, int caption) {
            Track captions = film.trackOf(track);
            int end = captions.end(caption);
            int wanted = Math.min(film.length, captions.first(caption) + figures.needs(track, caption));
            if (captions.has(caption + 1)) {
                wanted = Math.min(wanted, captions.first(caption + 1) - film.setting(LEAST_GAP));
            }
            int cut = film.cuts.firstFrom(end);
            if (cut != NONE) {
                wanted = Math.min(wanted, cut);
            }
            int later = Math.max(0, wanted - end);
            captions.setFrames(caption, captions.first(caption), end + later);
            return later;
        }

        int retimeRefusal(int track, Retiming retiming) {
            int lowest = NO_REFUSAL;
            for (int each = 0; each < TRACKS; each++) {
                Track captions = film.trackOf(each);
                for (int i = 0; i < captions.count && isMeant(track, each); i++) {
                    int reason = film.spanRefusal(
                            retiming.frameFor(captions.first(i)), retiming.frameFor(captions.end(i)));
                    if (lowest == NO_REFUSAL || (reason != NO_REFUSAL && reason < lowest)) {
                        lowest = reason;
                    }
                }
            }
            return lowest;
        }

        int retimeCaptions(int track, Retiming retiming) {
            int different = 0;
            for (int each = 0; each < TRACKS; each++) {
                Track captions = film.trackOf(each);
                for (int i = 0; i < captions.count && isMeant(track, each); i++) {
                    int first = retiming.frameFor(captions.first(i));
                    int end = retiming.frameFor(captions.end(i));
                    if (first != captions.first(i) || end != captions.end(i)) {
                        different++;
                    }
                    captions.setFrames(i, first, end);
                }
            }
            return different;
        }

        private static boolean isMeant(int track, int each) {
            return track == BOTH_TRACKS || track == each;
        }

        /** Makes or takes a cut for an item of a text, and tells the reason if it is refused. */
        int carryOutCut(int frame, boolean isCut) {
            if (!film.canBeCut(frame)) {
                return NOT_IN_FILM;
            }
            if (!isCut) {
                film.cuts.takeAway(frame);
                return NO_REFUSAL;
            }
            if (film.cuts.lacksRoomFor(frame)) {
                return TOO_MANY;
            }
            film.cuts.make(frame);
            return NO_REFUSAL;
        }
    }

    /** The frames that other frames become by two points. */
    private static final class Retiming {
        final int from;
        final int to;
        final int rise;
        final int run;

        Retiming(int from, int to, int from2, int to2) {
            this.from = from;
            this.to = to;
            rise = Math.abs(to2 - to);
            run = Math.abs(from2 - from);
        }

        int frameFor(int frame) {
            if (run <= 0) {
                return frame;
            }
            // The floor of the doubled value plus one, halved, rounds halves up below zero too.
            return to + Math.floorDiv(2 * (frame - from) * rise + run, 2 * run);
        }
    }

    /** Reads a text of items into rows, an item each. */
    private static final class Reader {
        final int[] whats;
        final int[] tracks;
        final int[] kinds;
        final int[] firsts;
        final int[] ends;
        final int[] wordsFroms;
        final int[] wordsTos;
        int count;
        int position;
        private Text text;

        Reader() {
            whats = new int[MOST_ITEMS];
            tracks = new int[MOST_ITEMS];
            kinds = new int[MOST_ITEMS];
            firsts = new int[MOST_ITEMS];
            ends = new int[MOST_ITEMS];
            wordsFroms = new int[MOST_ITEMS];
            wordsTos = new int[MOST_ITEMS];
            count = 0;
            position = 0;
            text = new Text();
        }

        private static boolean isItem(int item) {
            return item >= 0 && item < MOST_ITEMS;
        }

        int what(int item) {
            return isItem(item) ? whats[item] : ADD_ITEM;
        }

        int trackOfItem(int item) {
            return isItem(item) ? tracks[item] : 0;
        }

        int kind(int item) {
            return isItem(item) ? kinds[item] : SPEECH;
        }

        int first(int item) {
            return isItem(item) ? firsts[item] : 0;
        }

        int end(int item) {
            return isItem(item) ? ends[item] : 0;
        }

        int wordsFrom(int item) {
            return isItem(item) ? wordsFroms[item] : 0;
        }

        int wordsTo(int item) {
            return isItem(item) ? wordsTos[item] : 0;
        }

        /** Tells whether it is a text of items; if not, the position is that of the fault. */
        boolean readText(Text source) {
            text = source;
            position = 0;
            count = 0;
            for (int item = 0; item < MOST_ITEMS; item++) {
                if (!readItem(item)) {
                    return false;
                }
                count++;
                if (position >= text.size) {
                    return true;
                }
                if (!takeSign(';')) {
                    return false;
                }
            }
            return false;
        }

        private boolean readItem(int item) {
            if (takeSign('c')) {
                return readCut(item, CUT_ITEM);
            }
            if (takeSign('u')) {
                return readCut(item, UNCUT_ITEM);
            }
            return readCaption(item);
        }

        private boolean readCut(int item, int what) {
            int frame = readNumber();
            if (frame == NONE || !isItem(item)) {
                return false;
            }
            whats[item] = what;
            firsts[item] = frame;
            return true;
        }

        private boolean readCaption(int item) {
            int track = takeOneOf('a', 'b', NONE);
            int kind = track == NONE ? NONE : takeOneOf('.', '!', '*');
            int first = kind == NONE ? NONE : readNumber();
            int end = first == NONE || !takeSign('-') ? NONE : readNumber();
            if (end == NONE || !takeSign(':') || !isItem(item)) {
                return false;
            }
            whats[item] = ADD_ITEM;
            tracks[item] = track;
            kinds[item] = kind;
            firsts[item] = first;
            ends[item] = end;
            wordsFroms[item] = position;
            skipWords();
            wordsTos[item] = position;
            return wordsTos[item] > wordsFroms[item];
        }

        private boolean takeSign(int sign) {
            if (text.signAt(position) != sign) {
                return false;
            }
            position++;
            return true;
        }

        /** Which of the three signs it took, from 0, NONE if the text goes on with another one. */
        private int takeOneOf(int zero, int one, int two) {
            int sign = text.signAt(position);
            if (sign == NONE) {
                return NONE;
            }
            int which = sign == zero ? 0 : sign == one ? 1 : sign == two ? 2 : NONE;
            if (which != NONE) {
                position++;
            }
            return which;
        }

        private int readNumber() {
            int value = 0;
            int digits = 0;
            while (digits < MOST_DIGITS && isDigit(text.signAt(position))) {
                value = value * 10 + text.signAt(position) - '0';
                position++;
                digits++;
            }
            return digits > 0 ? value : NONE;
        }

        private void skipWords() {
            int signs = 0;
            while (signs < MOST_SIGNS && isWordSign(text.signAt(position))) {
                position++;
                signs++;
            }
        }

        private static boolean isDigit(int sign) {
            return sign >= '0' && sign <= '9';
        }
    }

    /** The films before the latest changes. */
    private static final class History {
        // One row more than can be undone: a text of items is tried while it is not yet a change.
        final Film[] before;
        int count;
        private int next;

        History() {
            before = new Film[MOST_CHANGES + 1];
            for (int i = 0; i < before.length; i++) {
                before[i] = new Film();
            }
            count = 0;
            next = 0;
        }

        void keep(Film film) {
            prepare(film);
            commit();
        }

        void prepare(Film film) {
            Film row = rowAt(next);
            if (row != null) {
                row.copyFrom(film);
            }
        }

        void commit() {
            next = next < MOST_CHANGES ? next + 1 : 0;
            count = Math.min(count + 1, MOST_CHANGES);
        }

        void takeBackInto(Film film) {
            Film row = rowAt(next);
            if (row != null) {
                film.copyFrom(row);
            }
        }

        void undoInto(Film film) {
            if (count <= 0) {
                return;
            }
            next = next > 0 ? next - 1 : MOST_CHANGES;
            count--;
            takeBackInto(film);
        }

        void forgetAll() {
            count = 0;
        }

        private Film rowAt(int index) {
            return index >= 0 && index < before.length ? before[index] : null;
        }
    }
}
