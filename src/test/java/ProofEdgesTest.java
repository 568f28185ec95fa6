/** Section 6 and promises 40 to 48, sentence by sentence: the edges of proofs and of what would be. */
public final class ProofEdgesTest {
    private static final Check check = new Check();

    private static final String START = "book width 40 lines 10 page 20;";
    private static final String BASE = START + "style indent 2 hang 3 gap 1 dots 2 grid 3;"
            + "section 1 lines 5 preface;main;section 1 lines 10 of time;section 2 lines 4 rest;"
            + "section 2 lines 3 more rest;section 1 lines 0 end;";

    // With one page of the table the number is viii and the second title breaks, with two it is ix.
    private static final String UNSETTLED = "book width 20 lines 2 page 5;"
            + "style indent 2 hang 3 gap 1 dots 0 grid 3;section 1 lines 27 a;section 1 lines 0 aaa aaaa;";

    private static ContentsSetter base() {
        return Driver.loaded(BASE);
    }

    private static ContentsSetter proofed() {
        ContentsSetter x = base();
        x.proof();
        return x;
    }

    // ---- "all sections before the first proof()", "all lines before the first proof()" ----

    private static void beforeTheFirstProof() {
        ContentsSetter x = new ContentsSetter();
        check.due("toRead of a new book", 0, x.toRead());
        check.due("changedLines of a new book", 0, x.changedLines());
        Driver.insert(x, 0, 1, 0, "aa aa");
        Driver.insert(x, 1, 1, 0, "b");
        check.due("toRead of two", 3, x.toRead());
        check.due("changedLines of two", 2, x.changedLines());
        x.setWidth(20);
        Driver.setTitle(x, 0, "aaaaaaaaaaaa aaaaaaaaaaaa");
        check.due("all lines, not all sections", 3, x.changedLines());
        check.due("all sections, not all lines", 3, x.toRead());
        ContentsSetter most = Driver.loaded(START + "section 1 lines 0 a;".repeat(24));
        check.due("toRead of 24", 0xffffff, most.toRead());
        check.due("changedLines of 24", 24, most.changedLines());
        check.due("proof of 24", 24, most.proof());
        check.due("toRead after proof", 0, most.toRead());
        check.due("changedLines after proof", 0, most.changedLines());
        check.due("a proof once more", 0, most.proof());
        most.undo();
        most.undo();
        check.due("the first proof undone: sections", 0xffffff, most.toRead());
        check.due("the first proof undone: lines", 24, most.changedLines());
    }

    /** A proof of no sections is one: what comes then was added. */
    private static void proofOfNothing() {
        ContentsSetter x = new ContentsSetter();
        check.due("proof of no sections", 0, x.proof());
        check.due("toRead of none", 0, x.toRead());
        check.due("changedLines of none", 0, x.changedLines());
        check.due("it can be undone", 1, x.undoCount());
        Driver.insert(x, 0, 1, 0, "a");
        check.due("toRead of the added one", 1, x.toRead());
        check.due("changedLines of its line", 1, x.changedLines());
        check.due("proof of it", 1, x.proof());
        x.remove(0);
        check.due("toRead of no section", 0, x.toRead());
        check.due("its line is there no more", 1, x.changedLines());
        check.due("proof without it", 0, x.proof());
        check.due("no line is another", 0, x.changedLines());
    }

    // ---- "a section must be read again if it was added or its setting has changed since then" ----

    private static void mustRead(String what, ContentsSetter x, int sections, int lines) {
        check.due("toRead after " + what, sections, x.toRead());
        check.due("changedLines after " + what, lines, x.changedLines());
        check.due("proof after " + what, Integer.bitCount(sections), x.proof());
        check.due("toRead after " + what + " and proof", 0, x.toRead());
        check.due("changedLines after " + what + " and proof", 0, x.changedLines());
        x.undo();
        check.due("toRead after " + what + " and proof undone", sections, x.toRead());
        check.due("changedLines after " + what + " and proof undone", lines, x.changedLines());
    }

    private static void changes() {
        ContentsSetter x = proofed();
        x.setLength(0, 15);
        mustRead("a length that moves nothing", x, 0, 0);
        x = proofed();
        x.setLength(0, 18);
        mustRead("a length that moves the main part", x, 0, 0);
        x = proofed();
        x.setLength(3, 18);
        mustRead("the last length with the same numbers", x, 0, 0);
        x.setLength(3, 22);
        mustRead("a length that moves the last chapter", x, 16, 1);
        x.setLength(3, 3);
        mustRead("the length as it was", x, 0, 0);
        x = proofed();
        Driver.setTitle(x, 0, "qreface");
        mustRead("a letter of the same width", x, 1, 1);
        x = proofed();
        Driver.setTitle(x, 4, "enb");
        mustRead("the last letter", x, 16, 1);
        Driver.setTitle(x, 4, "end");
        mustRead("the title as it was", x, 0, 0);
        x = proofed();
        x.setLevel(4, 2);
        mustRead("a level: label, start and number", x, 16, 1);
        x = proofed();
        x.setLevel(2, 1);
        mustRead("a level and the labels behind it", x, 4 + 8 + 16, 3);
        x = proofed();
        x.setGrid(4);
        mustRead("the grid", x, 31, 5);
        x = proofed();
        x.setRight(true);
        mustRead("right pages: only the front part is on others", x, 1, 1);
        x = proofed();
        // The last dot stands at 36; a number of 2 units lets it up to 36, the number 1 up to 37.
        x.setWidth(41);
        mustRead("a unit more of width, no dot more", x, 0, 0);
        x.setWidth(39);
        mustRead("a unit less of width, a dot less before wide numbers", x, 1 + 16, 2);
    }

    private static void addedAndRemoved() {
        ContentsSetter x = proofed();
        Driver.insert(x, 5, 1, 0, "more");
        mustRead("one added at the end", x, 32, 1);
        x = proofed();
        Driver.insert(x, 1, 1, 0, "preface");
        mustRead("one added before the main part's chapters", x, 2 + 4 + 8 + 16 + 32, 5);
        x.remove(1);
        mustRead("it is gone again", x, 0, 0);
        x = proofed();
        x.remove(4);
        mustRead("the last one removed", x, 0, 1);
        Driver.insert(x, 4, 1, 0, "end");
        mustRead("the same again is added", x, 16, 0);
        x.undo();
        x.undo();
        mustRead("the removed one is back by undo()", x, 0, 0);
        x = proofed();
        x.remove(0);
        mustRead("all lines went up, no setting changed", x, 0, 5);
        x = proofed();
        x.remove(3);
        mustRead("line 3 is another with another number, line 4 is none", x, 8, 2);
        x = proofed();
        Driver.insert(x, 0, 1, 0, "preface");
        mustRead("the first pushes the second to the next page", x, 1 + 2, 5);
        x = proofed();
        x.proof();
        x.setLength(3, 22);
        x.proof();
        x.undo();
        mustRead("the proof before counts again", x, 16, 1);
    }

    /** Nothing that is asked in between matters to a proof. */
    private static void proofsInARow() {
        ContentsSetter x = base();
        check.due("the first proof", 5, x.proof());
        x.setLength(3, 22);
        check.due("a proof without a question before", 1, x.proof());
        x.setGrid(9);
        x.bestWidth();
        check.due("a proof behind bestWidth()", 5, x.proof());
        x.slack(0);
        x.pagesIf(4, 500);
        check.due("a proof behind slack() and pagesIf()", 0, x.proof());
        check.due("toRead", 0, x.toRead());
        x.leastWidth(1);
        check.due("changedLines behind leastWidth()", 0, x.changedLines());
        x.leastWidth(1);
        check.due("toRead behind leastWidth()", 0, x.toRead());
    }

    /** The settings are texts: an entry whose lines go to other lines of the table is the same. */
    private static void settingsAreTexts() {
        ContentsSetter x = Driver.loaded("book width 20 lines 10 page 20;section 1 lines 0 a;"
                + "section 1 lines 0 aaaaaa aaaaaa;");
        x.proof();
        check.due("three lines", 3, x.count(2));
        Driver.setTitle(x, 0, "aaaaaa aaaaaa");
        mustRead("the entry before has a line more", x, 1, 4);
        Driver.setTitle(x, 0, "a");
        Driver.setTitle(x, 1, "aaaaaa aaaaab");
        mustRead("its second line", x, 2, 1);
        ContentsSetter y = Driver.loaded(START + "section 1 lines 0 a;section 1 lines 0 b;");
        y.proof();
        Driver.setTitle(y, 0, "b");
        Driver.setTitle(y, 1, "a");
        mustRead("titles that changed their places", y, 3, 2);
        check.due("no proof in a new book", 2, Driver.load(y, START + "section 1 lines 0 b;section 1 lines 0 a;"));
        check.due("toRead after load()", 3, y.toRead());
        check.due("changedLines after load()", 2, y.changedLines());
        y.undo();
        check.due("toRead after its undo()", 3, y.toRead());
        check.due("proofs of more than one", 2, y.proof());
    }

    /**
     * The setting of an entry about as long as one can be, of which only the number changes, at its very end.
     * The front part goes on to page clxxxviii, 14 units wide: so no line has room for two tokens. The
     * entry's own number takes 2 units, which leaves it the dots from 72 to 117.
     */
    private static void endOfALongSetting() {
        String word = "mmmmmmmmmmmm";
        ContentsSetter x = Driver.loaded("book width 120 lines 60 page 5;style indent 9 hang 9 gap 0 dots 0 grid 1;"
                + "section 1 lines 500 a;section 1 lines 422 a;section 1 lines 0 a;"
                + "main;section 1 lines 0 a;section 2 lines 0 a;section 3 lines 0 a;"
                + "section 4 lines 0" + (" " + word).repeat(8) + ";");
        check.due("last page of the front part", 188, x.page(2));
        check.due("width of its number", 14, x.count(6));
        check.due("lines of the long entry", 8, x.lineCount(6));
        String last = " ".repeat(36) + word + " " + ".".repeat(46) + " ";
        check.due("its first line", " ".repeat(27) + "1.1.1.1 " + word + "\n", Driver.line(x, 6));
        check.due("its last line", last + "2\n", Driver.line(x, 13));
        check.due("proof of the long entry", 7, x.proof());
        x.setLength(5, 3);
        check.due("its last line on the next page", last + "3\n", Driver.line(x, 13));
        mustRead("the number of a long entry", x, 1 << 6, 1);
        x.setLength(5, 2);
        mustRead("the number of a long entry as it was", x, 0, 0);
    }

    // ---- Promise 43: slack, "0 to 99" ----

    private static String pagesWith(String text, int section, int more) {
        ContentsSetter x = Driver.loaded(text);
        x.setLength(section, x.section(section, 1) + more);
        StringBuilder pages = new StringBuilder();
        for (int i = 0; i < x.count(0); i++) {
            pages.append(x.page(i)).append(' ');
        }
        return pages.toString();
    }

    /** The slack of a section must be what edits find. */
    private static void mustBeSlackOfEdits(String text, int section) {
        String pages = pagesWith(text, section, 0);
        int due = 0;
        while (due < 99 && pagesWith(text, section, due + 1).equals(pages)) {
            due++;
        }
        check.due("slack(" + section + ") of " + text, due, Driver.loaded(text).slack(section));
    }

    private static void slacks() {
        // A page of 99 lines: two chapters, of which the first has 3 lines and its length.
        String text = "book width 40 lines 10 page 99;section 1 lines 0 a;section 1 lines 0 b;";
        int[] lengths = {0, 95, 96, 97, 98, 195, 196, 401, 500};
        int[] slacks = {96, 1, 0, 98, 97, 0, 98, 91, 91};
        ContentsSetter x = Driver.loaded(text);
        for (int i = 0; i < lengths.length; i++) {
            x.setLength(0, lengths[i]);
            check.due("slack with length " + lengths[i], slacks[i], x.slack(0));
        }
        check.due("the last section has all", 99, x.slack(1));
        check.due("its length at most", 99, slackAtMost(x));
        check.dueThrow("slack(2)", Check.INDEX, () -> x.slack(2));
        check.dueThrow("slack(-1)", Check.INDEX, () -> x.slack(-1));
        // With right pages there is a page more: 99 and more.
        x.setLength(0, 0);
        x.setRight(true);
        check.due("right pages", 99, x.slack(0));
        for (int i = 0; i < 5; i++) {
            mustBeSlackOfEdits(BASE, i);
        }
        mustBeSlackOfEdits(UNSETTLED, 0);
        mustBeSlackOfEdits(UNSETTLED, 1);
    }

    private static int slackAtMost(ContentsSetter x) {
        x.setLength(1, 500);
        return x.slack(1);
    }

    // ---- Promise 44: pagesIf ----

    private static void pagesIf() {
        ContentsSetter x = base();
        for (int i = 0; i < 5; i++) {
            for (int lines : new int[] {0, 1, 17, 18, 499, 500}) {
                int pages = x.pagesIf(i, lines);
                x.setLength(i, lines);
                check.due("pagesIf(" + i + ", " + lines + ") and edit", x.count(4), pages);
                x.undo();
            }
        }
        check.due("pagesIf(4, 0)", 5, x.pagesIf(4, 0));
        check.due("pagesIf(4, 17)", 5, x.pagesIf(4, 17));
        check.due("pagesIf(4, 18)", 6, x.pagesIf(4, 18));
        check.due("pagesIf(4, 500)", 4 + 26, x.pagesIf(4, 500));
        check.due("pagesIf(0, 500)", 5 + 25, x.pagesIf(0, 500));
        // 30 lines are 6 pages, and the table takes 2; 25 are 5 with a table of 1, for vii leaves room.
        ContentsSetter y = Driver.loaded(UNSETTLED);
        check.due("pagesIf(0, 27) unsettled", 9, y.pagesIf(0, 27));
        check.due("pagesIf(0, 22)", 7, y.pagesIf(0, 22));
    }

    // ---- Promises 45 and 46: leastWidth and bestWidth ----

    /** Both by edits: the width must be the smallest one, so all are tried. */
    private static void mustBeWidths(String text) {
        ContentsSetter x = Driver.loaded(text);
        int[] pages = new int[121];
        int best = 20;
        int[] least = {Integer.MAX_VALUE, Integer.MAX_VALUE};
        ContentsSetter edited = Driver.loaded(text);
        for (int width = 20; width <= 120; width++) {
            edited.setWidth(width);
            pages[width] = edited.count(3);
            int overfull = edited.overfullCount();
            int lines = edited.count(2);
            if (overfull < least[0] || overfull == least[0] && lines < least[1]) {
                best = width;
                least = new int[] {overfull, lines};
            }
        }
        for (int most = 1; most <= 20; most++) {
            int due = ContentsSetter.NONE;
            for (int width = 120; width >= 20; width--) {
                due = pages[width] <= most ? width : due;
            }
            check.due("leastWidth(" + most + ") of " + text, due, x.leastWidth(most));
        }
        check.due("bestWidth of " + text, best, x.bestWidth());
        check.dueThrow("leastWidth(0)", Check.ARGUMENT, () -> x.leastWidth(0));
        check.dueThrow("leastWidth(21)", Check.ARGUMENT, () -> x.leastWidth(21));
    }

    private static void widths() {
        mustBeWidths(BASE);
        mustBeWidths(UNSETTLED);
        mustBeWidths(START);
        // With width 38 the table has 5 pages, with 39 it has 6.
        mustBeWidths("book width 26 lines 2 page 5;right;section 1 lines 3 aaaaaa aaaaaaaaa aaaaaaaaaaa;"
                + "section 1 lines 57 aaaaaaa aaaaaaaaaaaa;section 1 lines 43 aaaaaaaaaaa aaaaa aaaaaaaaaa;"
                + "section 2 lines 4 aaaaaaaa aaaaaaa aaaaaaa;");
        // Width 45 would do for the lines, but with it the table does not settle: two pages are taken.
        mustBeWidths("book width 24 lines 2 page 5;section 1 lines 58 aaa aaaaaaaaaa aaa;"
                + "section 2 lines 18 aaaaaaa aaaaaaaaa;");
        mustBeWidths("book width 20 lines 2 page 5;" + "section 1 lines 0 a;".repeat(24));
        // With width 24 no line is overfull, with 25 one is, with 26 none.
        mustBeWidths("book width 23 lines 2 page 5;section 1 lines 26 aaaaaaaaaa;section 2 lines 33 a aaaa;");
        // With width 34 there are fewer lines than with 35, and as few as with 36.
        mustBeWidths("book width 23 lines 2 page 5;section 1 lines 28 a aa;section 2 lines 42 aaaaaa aa aaa;"
                + "section 2 lines 52 aaaaaaaa a;");
        String overfull = START + "section 1 lines 0 mmmmmmmmmmmm;";
        check.due("the fewest overfull lines", 39, Driver.loaded(overfull).bestWidth());
        check.due("then the fewest lines", 22, Driver.loaded(START + "section 1 lines 0 aaa aaa;").bestWidth());
        check.due("then the smallest width", 20, Driver.loaded(START + "section 1 lines 0 aaa;").bestWidth());
        check.due("no sections", 20, Driver.loaded(START).bestWidth());
        ContentsSetter most = Driver.loaded("book width 20 lines 2 page 5;" + "section 1 lines 0 a;".repeat(24));
        check.due("12 pages are the least", 20, most.leastWidth(12));
        check.due("11 pages are too few", ContentsSetter.NONE, most.leastWidth(11));
        check.due("leastWidth(20) of no sections", 20, Driver.loaded(START).leastWidth(20));
        // The title takes 117 units, the number 2 and the gap 1.
        ContentsSetter wide = Driver.loaded("book width 20 lines 2 page 20;style indent 2 hang 3 gap 1 dots 0 grid 3;"
                + "section 1 lines 0 mmmmmmmmmmmm mmmmmmmmmmmm mmmmmmmmmmmm iiiiii;section 2 lines 0 a;");
        check.due("the greatest leastWidth", 120, wide.leastWidth(1));
        check.due("the greatest bestWidth", 120, wide.bestWidth());
        Driver.setTitle(wide, 0, "mmmmmmmmmmmm mmmmmmmmmmmm mmmmmmmmmmmm iiiiiii");
        check.due("a unit beyond it", ContentsSetter.NONE, wide.leastWidth(1));
    }

    // ---- "Methods that ask what would be do not change anything." ----

    private static void askingChangesNothing() {
        ContentsSetter x = proofed();
        x.setLength(3, 30);
        Driver.load(x, "book");
        x.writeLine(0);
        Driver.feed(x, "kept words");
        String before = Seen.all(x);
        for (int i = 0; i < 5; i++) {
            x.slack(i);
            x.pagesIf(i, 500);
        }
        x.leastWidth(1);
        x.leastWidth(20);
        x.bestWidth();
        x.crowded(0);
        x.longest(0);
        x.toRead();
        x.changedLines();
        check.due("after all the questions", before, Seen.all(x));
        check.due("undo", 2, x.undo());
        check.due("the proof is kept", 0, x.toRead());
    }

    // ---- Promises 47 and 48: crowded and longest ----

    private static void crowded() {
        // Pages 2: three, 3: one, 4: two, 5: three, 6: one, 7: two; the main part begins on page 5.
        ContentsSetter x = Driver.loaded(START + "section 1 lines 0 a;section 2 lines 0 a;section 2 lines 0 a;"
                + "section 1 lines 0 a;section 1 lines 0 a;section 2 lines 0 a;main;"
                + "section 1 lines 0 a;section 2 lines 0 a;section 2 lines 0 a;section 1 lines 0 a;"
                + "section 1 lines 0 a;section 2 lines 0 a;");
        // Twelve lines are two pages of the table, so all is a page later.
        int[] pages = {3, 6, 5, 8, 4, 7};
        for (int i = 0; i < pages.length; i++) {
            check.due("crowded(" + i + ")", pages[i], x.crowded(i));
        }
        check.due("crowded(6)", ContentsSetter.NONE, x.crowded(6));
        check.due("crowded(greatest)", ContentsSetter.NONE, x.crowded(Integer.MAX_VALUE));
        check.dueThrow("crowded(-1)", Check.ARGUMENT, () -> x.crowded(-1));
        check.dueThrow("crowded(least)", Check.ARGUMENT, () -> x.crowded(Integer.MIN_VALUE));
        ContentsSetter one = Driver.loaded(START + "section 1 lines 500 a;");
        check.due("pages that it only goes on to do not count", 2, one.crowded(0));
        check.due("the second place", ContentsSetter.NONE, one.crowded(1));
        ContentsSetter most = Driver.loaded(START + "section 1 lines 0 a;" + "section 2 lines 0 a;".repeat(16)
                + "section 1 lines 0 a;".repeat(7));
        // Three pages of the table; 17 on page 4, then one on each of the pages 5 to 11.
        check.due("crowded(0) of 24", 4, most.crowded(0));
        check.due("crowded(1) of 24", 5, most.crowded(1));
        check.due("crowded(7) of 24", 11, most.crowded(7));
        check.due("crowded(8) of 24", ContentsSetter.NONE, most.crowded(8));
    }

    private static void longest() {
        ContentsSetter x = Driver.loaded(START + "section 1 lines 0 aa;section 1 lines 0 ab;section 1 lines 0 mm;"
                + "main;section 1 lines 0 b;section 1 lines 0 iiii;section 1 lines 0 i;");
        // 4, 4, 6 in the front part; 1 + 1 + 2, 2 + 1 + 4 and 2 + 1 + 1 with their labels.
        int[] sections = {4, 2, 0, 1, 3, 5};
        for (int i = 0; i < sections.length; i++) {
            check.due("longest(" + i + ")", sections[i], x.longest(i));
        }
        check.due("longest(6)", ContentsSetter.NONE, x.longest(6));
        check.due("longest(greatest)", ContentsSetter.NONE, x.longest(Integer.MAX_VALUE));
        check.dueThrow("longest(-1)", Check.ARGUMENT, () -> x.longest(-1));
        check.dueThrow("longest(least)", Check.ARGUMENT, () -> x.longest(Integer.MIN_VALUE));
        ContentsSetter most = Driver.loaded(START + "section 1 lines 0 a;".repeat(24));
        check.due("longest(0) of 24 of the same width", 0, most.longest(0));
        check.due("longest(23) of 24 of the same width", 23, most.longest(23));
        check.due("longest(24) of 24", ContentsSetter.NONE, most.longest(24));
    }

    public static void main(String[] args) {
        beforeTheFirstProof();
        proofOfNothing();
        changes();
        addedAndRemoved();
        proofsInARow();
        settingsAreTexts();
        endOfALongSetting();
        slacks();
        pagesIf();
        widths();
        askingChangesNothing();
        crowded();
        longest();
        check.end();
    }
}
