/**
 * "A call that throws changes nothing": every call of the face that can be refused, with the first values
 * that are refused on both sides and the farthest ones, on a book of which everything is looked at
 * before and after.
 */
public final class RefusedTest {
    private static final Check check = new Check();

    private static final String BASE = "book width 40 lines 10 page 20;style indent 2 hang 3 gap 1 dots 2 grid 3;"
            + "section 1 lines 5 preface;main;section 1 lines 10 of time;section 2 lines 4 rest;"
            + "section 2 lines 3 more rest;section 1 lines 0 end;";

    private interface Use {
        void on(ContentsSetter x);
    }

    /** A book with something everywhere: a proof and a change since, an error, input, output, calls to undo. */
    private static ContentsSetter worked() {
        ContentsSetter x = Driver.loaded(BASE);
        x.proof();
        x.setLength(3, 30);
        Driver.load(x, "book width 19");
        x.writeLine(0);
        Driver.feed(x, "kept words");
        return x;
    }

    /** Six pages: the table, the front part and four of the main part. */
    private static final int LAST_PAGE = 6;
    private static final int SECTIONS = 5;
    private static final int LINES = 5;
    private static final int WORDS = 6;

    private static void refused(String what, Class<? extends RuntimeException> want, Use use) {
        ContentsSetter x = worked();
        String before = Seen.all(x);
        check.dueThrow(what, want, () -> use.on(x));
        check.due("what " + what + " leaves", before, Seen.all(x));
        check.due("the input after " + what, 1, x.setTitle(0));
        check.due("the title from it after " + what, "kept words ...... ii\n", Driver.line(x, 0));
        check.due("undo of it after " + what, 3, x.undo());
        check.due("undo of the edit before " + what, 2, x.undo());
        check.due("the length before " + what, 3, x.section(3, 1));
        check.due("the proof before " + what, 0, x.toRead());
        check.due("undo of the proof before " + what, 1, x.undo());
        check.due("no proof before " + what, 31, x.toRead());
        check.due("undo of the load before " + what, 0, x.undo());
        check.due("the new book before " + what, 60, x.setting(0));
    }

    /** The values next to a range on both sides, and the farthest ones. */
    private static int[] outOf(int least, int most) {
        return new int[] {Integer.MIN_VALUE, least - 1, most + 1, Integer.MAX_VALUE};
    }

    private static void theBookIsAsSaid() {
        ContentsSetter x = worked();
        check.due("sections", SECTIONS, x.count(0));
        check.due("lines", LINES, x.count(2));
        check.due("pages", LAST_PAGE, x.count(4));
        check.due("words", WORDS, x.wordCount());
        check.due("to read", 16, x.toRead());
        check.due("changed lines", 1, x.changedLines());
        check.due("calls to undo", 3, x.undoCount());
        check.due("code", 2, x.errorCode());
        check.due("position", 11, x.errorPosition());
        check.due("output", "preface ........ ii\n", Seen.output(x));
        check.due("input", 10, Seen.inputLength(x));
    }

    private static void sections() {
        for (int s : outOf(0, SECTIONS - 1)) {
            refused("section(" + s + ", 0)", Check.INDEX, x -> x.section(s, 0));
            refused("titleWidth(" + s + ")", Check.INDEX, x -> x.titleWidth(s));
            refused("page(" + s + ")", Check.INDEX, x -> x.page(s));
            refused("bookPage(" + s + ")", Check.INDEX, x -> x.bookPage(s));
            refused("lineOnPage(" + s + ")", Check.INDEX, x -> x.lineOnPage(s));
            refused("numberWidth(" + s + ")", Check.INDEX, x -> x.numberWidth(s));
            refused("firstLine(" + s + ")", Check.INDEX, x -> x.firstLine(s));
            refused("lineCount(" + s + ")", Check.INDEX, x -> x.lineCount(s));
            refused("setLength(" + s + ", 7)", Check.INDEX, x -> x.setLength(s, 7));
            refused("setLevel(" + s + ", 1)", Check.INDEX, x -> x.setLevel(s, 1));
            refused("setTitle(" + s + ")", Check.INDEX, x -> x.setTitle(s));
            refused("remove(" + s + ")", Check.INDEX, x -> x.remove(s));
            refused("slack(" + s + ")", Check.INDEX, x -> x.slack(s));
            refused("pagesIf(" + s + ", 7)", Check.INDEX, x -> x.pagesIf(s, 7));
        }
        for (int s : outOf(0, SECTIONS)) {
            refused("insert(" + s + ", 1, 0)", Check.INDEX, x -> x.insert(s, 1, 0));
        }
        for (int page : outOf(1, LAST_PAGE)) {
            refused("sectionAt(" + page + ")", Check.INDEX, x -> x.sectionAt(page));
        }
    }

    private static void linesWordsAndBytes() {
        for (int l : outOf(0, LINES - 1)) {
            refused("line(" + l + ", 0)", Check.INDEX, x -> x.line(l, 0));
            refused("dotCount(" + l + ")", Check.INDEX, x -> x.dotCount(l));
            refused("firstDot(" + l + ")", Check.INDEX, x -> x.firstDot(l));
            refused("isOverfull(" + l + ")", Check.INDEX, x -> x.isOverfull(l));
            refused("collides(" + l + ")", Check.INDEX, x -> x.collides(l));
            refused("writeLine(" + l + ")", Check.INDEX, x -> x.writeLine(l));
        }
        for (int word : outOf(0, WORDS - 1)) {
            refused("wordSections(" + word + ")", Check.INDEX, x -> x.wordSections(word));
        }
        for (int index : outOf(0, 19)) {
            refused("outputByte(" + index + ")", Check.INDEX, x -> x.outputByte(index));
        }
    }

    private static void otherValues() {
        for (int what : outOf(0, 7)) {
            refused("count(" + what + ")", Check.ARGUMENT, x -> x.count(what));
            refused("setting(" + what + ")", Check.ARGUMENT, x -> x.setting(what));
        }
        for (int what : outOf(0, 6)) {
            refused("section(4, " + what + ")", Check.ARGUMENT, x -> x.section(4, what));
        }
        for (int what : outOf(0, 4)) {
            refused("line(4, " + what + ")", Check.ARGUMENT, x -> x.line(4, what));
        }
        for (int part : outOf(0, 1)) {
            refused("findPage(" + part + ", 1)", Check.ARGUMENT, x -> x.findPage(part, 1));
        }
        for (int length : outOf(0, 10)) {
            refused("truncate(" + length + ")", Check.ARGUMENT, x -> x.truncate(length));
        }
        for (int lines : outOf(0, 500)) {
            refused("setLength(4, " + lines + ")", Check.ARGUMENT, x -> x.setLength(4, lines));
            refused("pagesIf(4, " + lines + ")", Check.ARGUMENT, x -> x.pagesIf(4, lines));
            refused("insert(5, 1, " + lines + ")", Check.ARGUMENT, x -> x.insert(5, 1, lines));
        }
        for (int level : outOf(1, 4)) {
            refused("setLevel(3, " + level + ")", Check.ARGUMENT, x -> x.setLevel(3, level));
            refused("insert(4, " + level + ", 0)", Check.ARGUMENT, x -> x.insert(4, level, 0));
        }
        for (int width : outOf(20, 120)) {
            refused("setWidth(" + width + ")", Check.ARGUMENT, x -> x.setWidth(width));
        }
        for (int grid : outOf(1, 9)) {
            refused("setGrid(" + grid + ")", Check.ARGUMENT, x -> x.setGrid(grid));
        }
        for (int pages : outOf(1, 20)) {
            refused("leastWidth(" + pages + ")", Check.ARGUMENT, x -> x.leastWidth(pages));
        }
        for (int less : new int[] {-1, Integer.MIN_VALUE}) {
            refused("dotsAt(" + less + ")", Check.ARGUMENT, x -> x.dotsAt(less));
            refused("crowded(" + less + ")", Check.ARGUMENT, x -> x.crowded(less));
            refused("longest(" + less + ")", Check.ARGUMENT, x -> x.longest(less));
        }
    }

    /** "a section of its part would have a level that cannot be": levels 1, then 1, 2, 2 and 1 in the main part */
    private static void levels() {
        refused("level 2 of the first of the front part", Check.ARGUMENT, x -> x.setLevel(0, 2));
        refused("level 2 of the first of the main part", Check.ARGUMENT, x -> x.setLevel(1, 2));
        refused("level 3 behind 1", Check.ARGUMENT, x -> x.setLevel(2, 3));
        refused("level 4 behind 2", Check.ARGUMENT, x -> x.setLevel(3, 4));
        refused("level 3 behind 2 1", Check.ARGUMENT, x -> x.setLevel(4, 4));
        refused("insert of 2 before the front part", Check.ARGUMENT, x -> x.insert(0, 2, 0));
        refused("insert of 2 before the main part", Check.ARGUMENT, x -> x.insert(1, 2, 0));
        refused("insert of 3 behind 1", Check.ARGUMENT, x -> x.insert(2, 3, 0));
        refused("insert of 4 behind 2", Check.ARGUMENT, x -> x.insert(3, 4, 0));
        refused("insert of 3 at the end behind 1", Check.ARGUMENT, x -> x.insert(5, 3, 0));
    }

    /** "If several exceptions apply, the one that is named first in the method's throws clause is thrown." */
    private static void theOneNamedFirst() {
        for (int s : outOf(0, SECTIONS - 1)) {
            refused("section(" + s + ", 7)", Check.INDEX, x -> x.section(s, 7));
            refused("setLength(" + s + ", 501)", Check.INDEX, x -> x.setLength(s, 501));
            refused("setLevel(" + s + ", 5)", Check.INDEX, x -> x.setLevel(s, 5));
            refused("pagesIf(" + s + ", -1)", Check.INDEX, x -> x.pagesIf(s, -1));
        }
        for (int l : outOf(0, LINES - 1)) {
            refused("line(" + l + ", 5)", Check.INDEX, x -> x.line(l, 5));
        }
        refused("insert(6, 5, 501)", Check.INDEX, x -> x.insert(6, 5, 501));
        refused("insert(-1, 0, -1)", Check.INDEX, x -> x.insert(-1, 0, -1));
        ContentsSetter full = Driver.loaded("book width 40 lines 10 page 20;" + "section 1 lines 0 a;".repeat(24));
        check.dueThrow("setTitle(24) without a title", Check.INDEX, () -> full.setTitle(24));
        check.dueThrow("insert(25, ..) without a title", Check.INDEX, () -> full.insert(25, 1, 0));
        check.dueThrow("insert(0, ..) without a title", Check.ARGUMENT, () -> full.insert(0, 1, 0));
        Driver.feed(full, "b");
        check.dueThrow("insert(25, 1, 0) into 24", Check.INDEX, () -> full.insert(25, 1, 0));
        check.dueThrow("insert(-1, 1, 0) into 24", Check.INDEX, () -> full.insert(-1, 1, 0));
        check.dueThrow("insert(24, 0, 0) into 24", Check.ARGUMENT, () -> full.insert(24, 0, 0));
        check.dueThrow("insert(24, 5, 0) into 24", Check.ARGUMENT, () -> full.insert(24, 5, 0));
        check.dueThrow("insert(24, 1, -1) into 24", Check.ARGUMENT, () -> full.insert(24, 1, -1));
        check.dueThrow("insert(24, 1, 501) into 24", Check.ARGUMENT, () -> full.insert(24, 1, 501));
        check.dueThrow("insert(24, 3, 0) into 24", Check.ARGUMENT, () -> full.insert(24, 3, 0));
        check.dueThrow("insert(0, 2, 0) into 24", Check.ARGUMENT, () -> full.insert(0, 2, 0));
        check.dueThrow("insert(24, 1, 0) into 24", Check.STATE, () -> full.insert(24, 1, 0));
        check.dueThrow("insert(0, 1, 0) into 24", Check.STATE, () -> full.insert(0, 1, 0));
        check.due("the title is still there", 1, full.setTitle(0));
        check.due("and the sections", 24, full.count(0));
        check.due("only load() and setTitle() can be undone", 2, full.undoCount());
    }

    private static int blanksBefore(String title) {
        int blanks = 0;
        while (blanks < title.length() && " \n".indexOf(title.charAt(blanks)) >= 0) {
            blanks++;
        }
        return blanks;
    }

    /** A title that is none: the buffer must keep it, the book must stay as it is. */
    private static void noTitles() {
        String[] none = {"", " ", "\n", " \n \n ", "a;", ";a", "a1", "1", "A", "a B", "a\tb", "a\r", "\0", "a\0",
            "\u00e1", "a-b", "a,b", "a b c d e f g h i", "\na b c d e f g h i\n", "abcdefghijklm",
            "a b c d e f g abcdefghijklm", "a b c d e f g h abcdefghijklm", "a b c d e f g h 1"};
        for (String title : none) {
            ContentsSetter x = worked();
            x.truncate(0);
            Driver.feed(x, title);
            String before = Seen.all(x);
            check.dueThrow("setTitle(1) of <" + title + ">", Check.ARGUMENT, () -> x.setTitle(1));
            check.due("what setTitle(1) of <" + title + "> leaves", before, Seen.all(x));
            check.dueThrow("insert(5, 1, 0) of <" + title + ">", Check.ARGUMENT, () -> x.insert(5, 1, 0));
            check.due("what insert(5, 1, 0) of <" + title + "> leaves", before, Seen.all(x));
            x.load();
            check.due("the first token of <" + title + "> is where it was", blanksBefore(title), x.errorPosition());
        }
        ContentsSetter x = worked();
        x.truncate(0);
        Driver.feed(x, "a b c d e f g h i");
        check.dueThrow("nine words", Check.ARGUMENT, () -> x.setTitle(1));
        x.truncate(15);
        check.due("the same text, cut to eight words", 2, x.setTitle(1));
        check.due("eight words", 8, x.section(1, 3));
        Driver.feed(x, "bcdefghijklmn");
        check.dueThrow("thirteen letters", Check.ARGUMENT, () -> x.insert(5, 1, 0));
        x.truncate(12);
        check.due("the same text, cut to twelve letters", 6, x.insert(5, 1, 0));
        check.due("twelve letters", 2 + 1 + 21, x.titleWidth(5));
    }

    /** "NoSuchElementException if it is not the last line of its entry" */
    private static void linesThatAreNotTheLast() {
        ContentsSetter x = worked();
        x.setWidth(20);
        x.truncate(0);
        Driver.setTitle(x, 1, "aaaaaa aaaaaa aaaaaa");
        Driver.feed(x, "kept words");
        check.due("three lines", 3, x.lineCount(1));
        String before = Seen.all(x);
        for (int i = 1; i <= 2; i++) {
            int line = i;
            check.dueThrow("dotCount(" + i + ")", Check.ELEMENT, () -> x.dotCount(line));
            check.dueThrow("firstDot(" + i + ")", Check.ELEMENT, () -> x.firstDot(line));
        }
        check.due("dotCount(3)", 0, x.dotCount(3));
        check.due("firstDot(3)", ContentsSetter.NONE, x.firstDot(3));
        check.due("what they leave", before, Seen.all(x));
    }

    /** "if the buffer would hold more than 1100 bytes" and "if there is nothing to undo" */
    private static void states() {
        ContentsSetter x = worked();
        for (int i = 0; i < 54; i++) {
            x.append(0x20202020, 0x20202020, 0x20202020, 0x20202020, 0x20202020);
        }
        String before = Seen.all(x);
        check.due("input", 1090, Seen.inputLength(x));
        check.dueThrow("append to 1090", Check.STATE, () -> x.append(-1, -1, -1, -1, -1));
        check.due("what append to 1090 leaves", before, Seen.all(x));
        check.due("the title in 1090 bytes", 1, x.setTitle(0));
        ContentsSetter y = new ContentsSetter();
        Driver.feed(y, "kept");
        String empty = Seen.all(y);
        check.dueThrow("undo of nothing", Check.STATE, () -> y.undo());
        check.due("what undo of nothing leaves", empty, Seen.all(y));
        ContentsSetter z = worked();
        z.undo();
        z.undo();
        z.undo();
        String undone = Seen.all(z);
        check.dueThrow("undo behind the first call", Check.STATE, () -> z.undo());
        check.due("what it leaves", undone, Seen.all(z));
        check.due("the input is there", 1, z.insert(0, 1, 0));
    }

    /** Nothing is there yet: what a new book refuses, and what it answers. */
    private static void nothingThereYet() {
        ContentsSetter x = new ContentsSetter();
        String before = Seen.all(x);
        check.dueThrow("section(0, 0)", Check.INDEX, () -> x.section(0, 0));
        check.dueThrow("titleWidth(0)", Check.INDEX, () -> x.titleWidth(0));
        check.dueThrow("page(0)", Check.INDEX, () -> x.page(0));
        check.dueThrow("bookPage(0)", Check.INDEX, () -> x.bookPage(0));
        check.dueThrow("lineOnPage(0)", Check.INDEX, () -> x.lineOnPage(0));
        check.dueThrow("numberWidth(0)", Check.INDEX, () -> x.numberWidth(0));
        check.dueThrow("sectionAt(0)", Check.INDEX, () -> x.sectionAt(0));
        check.dueThrow("sectionAt(1)", Check.INDEX, () -> x.sectionAt(1));
        check.dueThrow("firstLine(0)", Check.INDEX, () -> x.firstLine(0));
        check.dueThrow("lineCount(0)", Check.INDEX, () -> x.lineCount(0));
        check.dueThrow("line(0, 0)", Check.INDEX, () -> x.line(0, 0));
        check.dueThrow("dotCount(0)", Check.INDEX, () -> x.dotCount(0));
        check.dueThrow("firstDot(0)", Check.INDEX, () -> x.firstDot(0));
        check.dueThrow("isOverfull(0)", Check.INDEX, () -> x.isOverfull(0));
        check.dueThrow("collides(0)", Check.INDEX, () -> x.collides(0));
        check.dueThrow("wordSections(0)", Check.INDEX, () -> x.wordSections(0));
        check.dueThrow("setLength(0, 0)", Check.INDEX, () -> x.setLength(0, 0));
        check.dueThrow("setLevel(0, 1)", Check.INDEX, () -> x.setLevel(0, 1));
        check.dueThrow("setTitle(0)", Check.INDEX, () -> x.setTitle(0));
        check.dueThrow("insert(1, 1, 0)", Check.INDEX, () -> x.insert(1, 1, 0));
        check.dueThrow("insert(0, 1, 0) without a title", Check.ARGUMENT, () -> x.insert(0, 1, 0));
        check.dueThrow("remove(0)", Check.INDEX, () -> x.remove(0));
        check.dueThrow("slack(0)", Check.INDEX, () -> x.slack(0));
        check.dueThrow("pagesIf(0, 0)", Check.INDEX, () -> x.pagesIf(0, 0));
        check.dueThrow("writeLine(0)", Check.INDEX, () -> x.writeLine(0));
        check.dueThrow("outputByte(0)", Check.INDEX, () -> x.outputByte(0));
        check.dueThrow("undo()", Check.STATE, () -> x.undo());
        check.dueThrow("truncate(1)", Check.ARGUMENT, () -> x.truncate(1));
        check.due("what they leave", before, Seen.all(x));
        check.due("crowded(0)", ContentsSetter.NONE, x.crowded(0));
        check.due("longest(0)", ContentsSetter.NONE, x.longest(0));
        check.due("findWord()", ContentsSetter.NONE, x.findWord());
        check.due("collisions()", 0, x.collisions());
        check.due("overfullCount()", 0, x.overfullCount());
        check.due("leastWidth(1)", 20, x.leastWidth(1));
        check.due("bestWidth()", 20, x.bestWidth());
        check.due("writeTable()", 0, x.writeTable());
        check.due("toRead()", 0, x.toRead());
        check.due("changedLines()", 0, x.changedLines());
        check.due("what these leave", before, Seen.all(x));
        check.due("proof()", 0, x.proof());
        check.due("setWidth(20)", 60, x.setWidth(20));
        check.due("setGrid(9)", 3, x.setGrid(9));
        check.due("setRight(true)", false, x.setRight(true));
        check.due("undoCount()", 4, x.undoCount());
    }

    public static void main(String[] args) {
        theBookIsAsSaid();
        sections();
        linesWordsAndBytes();
        otherValues();
        levels();
        theOneNamedFirst();
        noTitles();
        linesThatAreNotTheLast();
        states();
        nothingThereYet();
        check.end();
    }
}
