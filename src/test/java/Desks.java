/** Short ways to put a desk into a state. */
final class Desks {
    private Desks() {
    }

    static SubtitleDesk feed(SubtitleDesk desk, String text) {
        for (int i = 0; i < text.length(); i++) {
            desk.feed(text.charAt(i));
        }
        return desk;
    }

    static int read(SubtitleDesk desk, String text) {
        return feed(desk, text).read();
    }

    static int add(SubtitleDesk desk, int track, int kind, int first, int end, String text) {
        return feed(desk, text).add(track, kind, first, end);
    }

    static SubtitleDesk reading(String... texts) {
        SubtitleDesk desk = new SubtitleDesk();
        for (String text : texts) {
            read(desk, text);
        }
        return desk;
    }

    static String text(SubtitleDesk desk, int track, int caption) {
        StringBuilder text = new StringBuilder();
        for (int i = 0; i < desk.caption(track, caption, 7); i++) {
            text.append(desk.letter(track, caption, i));
        }
        return text.toString();
    }

    /** Captions of a track as first-end:text, for one comparison of them all. */
    static String captions(SubtitleDesk desk, int track) {
        StringBuilder all = new StringBuilder();
        for (int i = 0; i < desk.number(8 + track); i++) {
            all.append(desk.caption(track, i, 2)).append('/').append(desk.caption(track, i, 0)).append('-');
            all.append(desk.caption(track, i, 1)).append(':').append(text(desk, track, i)).append(' ');
        }
        return all.toString().trim();
    }
}
