/** Short ways to put a desk into a state. */
final class Desks {
    private Desks() {
    }

    static Desk feed(Desk desk, String text) {
        for (int i = 0; i < text.length(); i++) {
            desk.feed(text.charAt(i));
        }
        return desk;
    }

    static int read(Desk desk, String text) {
        return feed(desk, text).read();
    }

    static int add(Desk desk, int track, int kind, int first, int end, String text) {
        return feed(desk, text).add(track, kind, first, end);
    }

    static Run texts(String... texts) {
        return desk -> {
            for (String text : texts) {
                read(desk, text);
            }
        };
    }

    static Desk reading(String... texts) {
        return texts(texts).made();
    }

    /** Takes all captions of track 0 away, that one can be added anywhere. */
    static void clear(Desk desk) {
        for (int left = desk.number(8); left > 0; left--) {
            desk.remove(0, 0);
        }
    }

    /**
     * A state with something of everything: a film with cuts and captions, numbers that were set, a snapshot of another
     * film, more changes than can be undone, a fault position and a refusal of an item; the input is empty.
     */
    static void busy(Desk desk) {
        read(desk, "a.100-140:ab_c;b!100-130:fgh;c120;c200");
        desk.set(4, 6);
        desk.saveSnapshot();
        desk.film(900);
        desk.set(0, 14);
        desk.set(5, 7);
        read(desk, "a!150-160:d|e;b*141-170:i;a!163-170:f;c300");
        desk.cut(200, false);
        desk.move(1, 0, 103, 137);
        read(desk, "b.400-420:long_text");
        Run.failing(failing -> read(failing, "c5;x")).on(desk);
        Run.failing(failing -> read(failing, "c7;c900")).on(desk);
    }

    static String text(Desk desk, int track, int caption) {
        StringBuilder text = new StringBuilder();
        for (int i = 0; i < desk.caption(track, caption, 7); i++) {
            text.append(desk.letter(track, caption, i));
        }
        return text.toString();
    }

    /** Captions of a track as kind/first-end:text, for one comparison of them all. */
    static String captions(Desk desk, int track) {
        StringBuilder all = new StringBuilder();
        for (int i = 0; i < desk.number(8 + track); i++) {
            all.append(desk.caption(track, i, 2)).append('/').append(desk.caption(track, i, 0)).append('-');
            all.append(desk.caption(track, i, 1)).append(':').append(text(desk, track, i)).append(' ');
        }
        return all.toString().trim();
    }
}
