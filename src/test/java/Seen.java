/** What a ContentsSetter answers, as one text: if two of them are the same, so is what they tell of. */
final class Seen {
    private Seen() {
    }

    /** All that undo() restores. */
    static String book(ContentsSetter x) {
        StringBuilder text = new StringBuilder();
        for (int i = 0; i < 8; i++) {
            text.append(x.setting(i)).append(' ').append(x.count(i)).append(' ');
        }
        text.append(x.isRight()).append(" rounds ").append(x.rounds());
        text.append(" read ").append(x.toRead()).append(' ').append(x.changedLines()).append(" words");
        for (int i = 0; i < x.wordCount(); i++) {
            text.append(' ').append(x.wordSections(i));
        }
        for (int i = 0; i < x.count(0); i++) {
            text.append("\nsection ").append(x.titleWidth(i)).append(' ').append(x.page(i));
            for (int what = 0; what < 4; what++) {
                text.append(' ').append(x.section(i, what));
            }
        }
        for (int i = 0; i < x.count(2); i++) {
            text.append("\nline ").append(x.line(i, 0)).append(' ').append(x.line(i, 2));
        }
        return text.toString();
    }

    /** All that a call can change. */
    static String all(ContentsSetter x) {
        StringBuilder text = new StringBuilder(book(x));
        text.append("\nundo ").append(x.undoCount());
        text.append(" error ").append(x.errorCode()).append(' ').append(x.errorPosition());
        text.append(" input ").append(inputLength(x)).append(" output ").append(output(x));
        return text.toString();
    }

    static int inputLength(ContentsSetter x) {
        try {
            int length = x.append(0, 0, 0, 0, 0) - 20;
            x.truncate(length);
            return length;
        } catch (IllegalStateException full) {
            return nearlyFull(x);
        }
    }

    /** A cut to the length that the buffer has changes nothing, and one to a greater length is refused. */
    private static int nearlyFull(ContentsSetter x) {
        for (int length = 1100; length > 1080; length--) {
            try {
                x.truncate(length);
                return length;
            } catch (IllegalArgumentException longer) {
                continue;
            }
        }
        return -1;
    }

    static String output(ContentsSetter x) {
        StringBuilder text = new StringBuilder();
        try {
            for (int i = 0; i < 512; i++) {
                text.append((char) (x.outputByte(i) & 255));
            }
        } catch (IndexOutOfBoundsException end) {
            return text.toString();
        }
        return text.append("...").toString();
    }
}
