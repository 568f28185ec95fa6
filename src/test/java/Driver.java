import java.nio.charset.StandardCharsets;

/** Brings texts into a ContentsSetter and out of it, with as few calls as can be: an object has 512. */
final class Driver {
    private Driver() {
    }

    /** Appends a text to the input buffer, which must have room for it in steps of 20 bytes. */
    static void feed(ContentsSetter x, String text) {
        byte[] bytes = text.getBytes(StandardCharsets.ISO_8859_1);
        int[] fours = new int[5];
        int length = 0;
        for (int i = 0; i < bytes.length; i += 20) {
            for (int j = 0; j < 5; j++) {
                fours[j] = 0;
                for (int k = 0; k < 4; k++) {
                    int at = i + 4 * j + k;
                    fours[j] = fours[j] << 8 | (at < bytes.length ? bytes[at] & 255 : 0);
                }
            }
            length = x.append(fours[0], fours[1], fours[2], fours[3], fours[4]);
        }
        if (bytes.length % 20 != 0) {
            x.truncate(length - 20 + bytes.length % 20);
        }
    }

    static int load(ContentsSetter x, String text) {
        feed(x, text);
        return x.load();
    }

    static ContentsSetter loaded(String text) {
        ContentsSetter x = new ContentsSetter();
        if (load(x, text) < 0) {
            throw new IllegalStateException("code " + x.errorCode() + " at " + x.errorPosition() + " of " + text);
        }
        return x;
    }

    static int setTitle(ContentsSetter x, int section, String title) {
        feed(x, title);
        return x.setTitle(section);
    }

    static int insert(ContentsSetter x, int section, int level, int lines, String title) {
        feed(x, title);
        return x.insert(section, level, lines);
    }

    static int find(ContentsSetter x, String word) {
        feed(x, word);
        return x.findWord();
    }

    static String output(ContentsSetter x, int length) {
        StringBuilder text = new StringBuilder();
        for (int i = 0; i < length; i++) {
            text.append((char) (x.outputByte(i) & 255));
        }
        return text.toString();
    }

    static String line(ContentsSetter x, int line) {
        return output(x, x.writeLine(line));
    }

    static String table(ContentsSetter x) {
        return output(x, x.writeTable());
    }
}
