import java.nio.charset.StandardCharsets;

/** Counts the answers that are not as due, and feeds texts. */
final class Check {
    private int wrong;

    void due(String what, long got, long want) {
        if (got != want) {
            wrong++;
            System.out.println(what + " answered " + got + ", due is " + want);
        }
    }

    void due(String what, boolean got, boolean want) {
        due(what, got ? 1 : 0, want ? 1 : 0);
    }

    void due(String what, String got, String want) {
        if (!got.equals(want)) {
            wrong++;
            System.out.println(what + " answered " + got + ", due is " + want);
        }
    }

    /** The text is read, and the answer is due. */
    void reads(BreweryHouse house, int kind, String text, int want) {
        String told = text.length() > 200 ? text.substring(0, 80) + " .. " + text.substring(text.length() - 80) : text;
        due("end(" + kind + ") of \"" + told.replace("\n", "\\n") + "\"", read(house, kind, text), want);
    }

    /** A text that is wrong at a place: where the mark ^ stands in it. */
    void wrongAt(int kind, String marked) {
        int place = marked.indexOf('^');
        String text = marked.substring(0, place) + marked.substring(place + 1);
        reads(new BreweryHouse(), kind, text, -3 - place);
    }

    static int read(BreweryHouse house, int kind, String text) {
        feed(house, text);
        return house.end(kind, text.length());
    }

    static void feed(BreweryHouse house, String text) {
        byte[] bytes = text.getBytes(StandardCharsets.ISO_8859_1);
        for (int i = 0; i < bytes.length; i += 20) {
            house.feed(word(bytes, i), word(bytes, i + 4), word(bytes, i + 8), word(bytes, i + 12), word(bytes, i + 16));
        }
    }

    private static int word(byte[] bytes, int at) {
        int word = 0;
        for (int i = at; i < at + 4; i++) {
            word = word << 8 | (i < bytes.length ? bytes[i] & 255 : 0);
        }
        return word;
    }

    static String times(String text, int n) {
        return text.repeat(n);
    }

    void done() {
        if (wrong > 0) {
            System.out.println(wrong + " answers are not as due");
            System.exit(1);
        }
    }
}
