import java.util.NoSuchElementException;

/** The promises one by one, with answers worked out by hand from the document. */
public final class PromiseTest {
    private static final Class<IndexOutOfBoundsException> INDEX = Check.INDEX;
    private static final Class<IllegalArgumentException> ARGUMENT = Check.ARGUMENT;
    private static final Class<IllegalStateException> STATE = Check.STATE;
    private static final Class<NoSuchElementException> ELEMENT = Check.ELEMENT;

    private static final String START = "book width 40 lines 10 page 20;";
    private static final String BASE = START + "style indent 2 hang 3 gap 1 dots 2 grid 3;"
            + "section 1 lines 5 preface;main;section 1 lines 10 of time;section 2 lines 4 rest;"
            + "section 2 lines 3 more rest;section 1 lines 0 end;";
    private static final String BASE_TABLE = "preface ........ ii\n"
            + "1 of time ........ 1\n"
            + "  1.1 rest ........ 1\n"
            + "  1.2 more rest ..... 1\n"
            + "2 end ......... 3\n";

    // Number viii with one page of the table breaks the second title, number ix with two does not.
    private static final String UNSETTLED = "book width 20 lines 2 page 5;"
            + "style indent 2 hang 3 gap 1 dots 0 grid 3;section 1 lines 27 a;section 1 lines 0 aaa aaaa;";

    private static final Check check = new Check();

    private static ContentsSetter base() {
        return Driver.loaded(BASE);
    }

    private static String many(int howMany, String statement) {
        return statement.repeat(howMany);
    }

    private static void newObject() {
        ContentsSetter x = new ContentsSetter();
        int[] settings = {60, 40, 40, 2, 3, 1, 2, 3};
        for (int i = 0; i < settings.length; i++) {
            check.due("new setting " + i, settings[i], x.setting(i));
        }
        int[] counts = {0, 0, 0, 0, 0, 0, 0, 59};
        for (int i = 0; i < counts.length; i++) {
            check.due("new count " + i, counts[i], x.count(i));
        }
        check.due("new isRight", false, x.isRight());
        check.due("new rounds", 0, x.rounds());
        check.due("new wordCount", 0, x.wordCount());
        check.due("new undoCount", 0, x.undoCount());
        check.due("new input", 20, x.append(0, 0, 0, 0, 0));
        check.dueThrow("new output", INDEX, () -> x.outputByte(0));
        check.due("NONE", -1, ContentsSetter.NONE);
        check.due("PARSE_ERROR", -4, ContentsSetter.PARSE_ERROR);
    }

    private static void append() {
        ContentsSetter x = new ContentsSetter();
        for (int i = 1; i <= 55; i++) {
            check.due("append " + i, 20 * i, x.append(0x20202020, 0x20202020, 0x20202020, 0x20202020, 0x20202020));
        }
        check.dueThrow("append to 1120", STATE, () -> x.append(0, 0, 0, 0, 0));
        x.truncate(1081);
        check.dueThrow("append to 1101", STATE, () -> x.append(0, 0, 0, 0, 0));
        x.truncate(1080);
        check.due("append to 1100", 1100, x.append(0, 0, 0, 0, 0));

        ContentsSetter y = Driver.loaded(START + "section 1 lines 0 abcdefghijkl;");
        // The most significant byte comes first, and e comes last.
        y.append(0x61626364, 0x65666768, 0x696a6b6c, 0x20202020, 0x20202041);
        y.truncate(12);
        check.due("bytes in order", 0, y.findWord());
        y.append(0x61626364, 0x65666768, 0x696a6b6c, 0x20202020, 0x20202041);
        check.due("last byte is a symbol", ContentsSetter.PARSE_ERROR, y.load());
        check.due("first token is a word", 0, y.errorPosition());
    }

    private static void truncate() {
        ContentsSetter x = new ContentsSetter();
        Driver.feed(x, "0123456789");
        check.dueThrow("truncate(-1)", ARGUMENT, () -> x.truncate(-1));
        check.dueThrow("truncate(11)", ARGUMENT, () -> x.truncate(11));
        x.truncate(10);
        check.due("after truncate(10)", 30, x.append(0, 0, 0, 0, 0));
        x.truncate(3);
        check.due("after truncate(3)", 23, x.append(0, 0, 0, 0, 0));
        x.truncate(0);
        check.due("after truncate(0)", 20, x.append(0, 0, 0, 0, 0));
    }

    private static void load() {
        ContentsSetter x = new ContentsSetter();
        check.due("load", 5, Driver.load(x, BASE));
        check.due("table", BASE_TABLE, Driver.table(x));
        check.due("buffer is empty", 20, x.append(0, 0, 0, 0, 0));
        x.proof();
        check.due("load with an error", ContentsSetter.PARSE_ERROR, x.load());
        check.due("buffer is empty after an error", 20, x.append(0, 0, 0, 0, 0));
        x.truncate(0);
        check.due("error keeps the book", BASE_TABLE, Driver.table(x));
        check.due("error keeps the proof", 0, x.toRead());
        check.due("error is not undone", 2, x.undoCount());
        x.setRight(true);
        check.due("load of no sections", 0, Driver.load(x, START));
        check.due("right is that of the text", false, x.isRight());
        check.due("load of the same text", 5, Driver.load(x, BASE));
        check.due("load has no proof", 31, x.toRead());
        x.proof();
        check.due("load of the same text again", 5, Driver.load(x, BASE));
        check.due("load has no proof: lines", 5, x.changedLines());
        Driver.load(x, "book width 50 lines 9 page 30 ; style indent 1 hang 4 gap 0 dots 9 grid 9;right;");
        int[] settings = {50, 9, 30, 1, 4, 0, 9, 9};
        for (int i = 0; i < settings.length; i++) {
            check.due("setting " + i, settings[i], x.setting(i));
        }
        check.due("right", true, x.isRight());
        Driver.load(x, START);
        check.due("style is not kept", 3, x.setting(7));
        check.due("order of statements", 2, Driver.load(x, "book\nwidth40lines2page5;section1lines0a;right;"
                + "section 1 lines 500 section lines;style indent 0 hang 0 gap 0 dots 0 grid 1;main;"));
        check.due("all in the front part", 2, x.count(1));
        check.due("24 sections", 24, Driver.load(x, START + many(24, "section 1 lines 0 a;")));
        check.due("words of a title", 8,
                Driver.loaded(START + "section 1 lines 0 a b c d e f g abcdefghijkl;").section(0, 3));
    }

    private static void error(String text, int code, int position) {
        ContentsSetter x = new ContentsSetter();
        check.due("load " + text, ContentsSetter.PARSE_ERROR, Driver.load(x, text));
        check.due("errorCode of " + text, code, x.errorCode());
        check.due("errorPosition of " + text, position, x.errorPosition());
    }

    private static void errorCodeAndPosition() {
        ContentsSetter x = new ContentsSetter();
        check.due("no load: code", 0, x.errorCode());
        check.due("no load: position", ContentsSetter.NONE, x.errorPosition());
        Driver.load(x, "x");
        check.due("code", 1, x.errorCode());
        Driver.load(x, START);
        check.due("right load: code", 0, x.errorCode());
        check.due("right load: position", ContentsSetter.NONE, x.errorPosition());
        Driver.load(x, "  x");
        check.due("position", 2, x.errorPosition());
        Driver.feed(x, "1");
        check.dueThrow("insert", ARGUMENT, () -> x.insert(0, 1, 1));
        check.due("a title's error is none of load()", 2, x.errorPosition());
        check.due("undo keeps what it does not restore", 0, x.undo());
        check.due("position after undo", 2, x.errorPosition());

        error("", 1, 0);
        error(" \n ", 1, 3);
        error("style indent 2", 1, 0);
        error("took width 20 lines 2 page 9;", 1, 0);
        error("book width 19 lines 10 page 20;", 2, 11);
        error("book width 121 lines 10 page 20;", 2, 11);
        error("book width 20 lines 1 page 20;", 2, 20);
        error("book width 20 lines 61 page 20;", 2, 20);
        error("book width 20 lines 2 page 4;", 2, 27);
        error("book width 20 lines 2 page 100;", 2, 27);
        error("book width 99999999999999999999 lines 2 page 9;", 2, 11);
        error("book width width", 1, 11);
        error("book width 20 lines 2 page 9", 1, 28);
        error("book width 20 lines 2 page 9 \n", 1, 30);
        error("book width 20 lines 2 page 9 9", 1, 29);
        error("book width 20 lines 2 page 9;;", 1, 29);
        error("bookwidth 20 lines 2 page 9;", 1, 0);
        error("book width 20 lines 2 page 9\t;", 1, 28);
        error(START + "book width 20 lines 2 page 9;", 1, 31);
        error(START + "style indent 10", 2, 44);
        error(START + "style indent 9 hang 9 gap 9 dots 9 grid 0;", 2, 71);
        error(START + "style indent 9 hang 9 gap 9 dots 9 grid 10;", 2, 71);
        error(START + "right;right;", 3, 37);
        error(START + "main;main;", 3, 36);
        error(START + "style indent 9 hang 9 gap 9 dots 9 grid 9;style", 3, 73);
        error(START + "right 1", 1, 37);
        error(START + "Section 1 lines 0 a;", 1, 31);
        error(START + "\u00e9", 1, 31);
        error(START + "section 0 lines 0 a;", 2, 39);
        error(START + "section 2 lines 0 a;", 2, 39);
        error(START + "section 1 lines 501 a;", 2, 47);
        error(START + "section 1 lines 0 a;section 3 lines 0 a;", 2, 59);
        error(START + "section 1 lines 0 a;main;section 2 lines 0 a;", 2, 64);
        String deep = START + "section 1 lines 0 a;section 2 lines 0 a;section 3 lines 0 a;section 4 lines 0 a;";
        error(deep + "section 5 lines 0 a;", 2, deep.length() + 8);
        error(START + "section 1 lines 0;", 1, 48);
        error(START + "section 1 lines 0 a 1;", 1, 51);
        error(START + "section 1 lines 0 abcdefghijklm;", 1, 49);
        error(START + "section 1 lines 0 a b c d e f g h i;", 4, 65);
        error(START + "section 1 lines 0 a b c d e f g h abcdefghijklm;", 1, 65);
        error(START + "section 1 lines 0 a b c d e f g h 9;", 1, 65);
        error(START + many(24, "section 1 lines 0 a;") + "section", 4, 31 + 24 * 20);
        error(START + many(24, "section 1 lines 0 a;") + "sections", 1, 31 + 24 * 20);
    }

    private static void count() {
        ContentsSetter x = base();
        int[] counts = {5, 1, 5, 1, 5, 3, 2, 37};
        for (int i = 0; i < counts.length; i++) {
            check.due("count " + i, counts[i], x.count(i));
        }
        check.dueThrow("count(-1)", ARGUMENT, () -> x.count(-1));
        check.dueThrow("count(8)", ARGUMENT, () -> x.count(8));
        ContentsSetter y = Driver.loaded(START + "main;section 1 lines 0 a;");
        check.due("main part without a front part", 2, y.count(5));
        y.setRight(true);
        check.due("main part on a right page", 3, y.count(5));
        check.due("pages with an empty one", 3, y.count(4));
        ContentsSetter right = Driver.loaded(START + "right;section 1 lines 0 a;main;");
        check.due("no empty page behind the last part", 3, right.count(4));
        check.due("main part without sections", 0,
                Driver.loaded(START + "section 1 lines 0 a;main;").count(5));
        ContentsSetter z = Driver.loaded("book width 20 lines 2 page 5;style indent 0 hang 0 gap 9 dots 0 grid 1;"
                + many(2, "section 1 lines 500 a;") + "section 1 lines 182 a;section 1 lines 0 a;");
        // Page 2 + 101 + 101 + 37 = 241 with one page of the table, 242 with its two: ccxlii.
        check.due("roman number", "a  ccxlii\n", Driver.line(z, 3));
        check.due("column", 2 + 2 + 2 + 1 + 1 + 1, z.count(6));
        check.due("limit", 20 - 9 - 9, z.count(7));
    }

    private static void setting() {
        ContentsSetter x = base();
        int[] settings = {40, 10, 20, 2, 3, 1, 2, 3};
        for (int i = 0; i < settings.length; i++) {
            check.due("setting " + i, settings[i], x.setting(i));
        }
        check.dueThrow("setting(-1)", ARGUMENT, () -> x.setting(-1));
        check.dueThrow("setting(8)", ARGUMENT, () -> x.setting(8));
    }

    private static void isRight() {
        check.due("isRight without right", false, base().isRight());
        check.due("isRight with right", true, Driver.loaded(BASE + "right;").isRight());
    }

    private static void section() {
        ContentsSetter x = base();
        int[][] values = {
            {1, 5, 0, 1, -1, 0, 1},
            {1, 10, 1, 2, -1, 2, 1},
            {2, 4, 1, 1, 1, 0, 1},
            {2, 3, 1, 2, 1, 0, 2},
            {1, 0, 1, 1, -1, 0, 2},
        };
        for (int i = 0; i < values.length; i++) {
            for (int j = 0; j < 7; j++) {
                check.due("section(" + i + ", " + j + ")", values[i][j], x.section(i, j));
            }
        }
        check.dueThrow("section(-1, 0)", INDEX, () -> x.section(-1, 0));
        check.dueThrow("section(5, 7)", INDEX, () -> x.section(5, 7));
        check.dueThrow("section(0, -1)", ARGUMENT, () -> x.section(0, -1));
        check.dueThrow("section(0, 7)", ARGUMENT, () -> x.section(0, 7));
        ContentsSetter y = Driver.loaded(START + "section 1 lines 0 a;section 2 lines 0 a;section 3 lines 0 a;"
                + "section 4 lines 0 a;section 2 lines 0 a;section 3 lines 0 a;");
        check.due("parent of a 4", 2, y.section(3, 4));
        check.due("parent of a 3", 4, y.section(5, 4));
        check.due("ordinal of a 3 of another parent", 1, y.section(5, 6));
        check.due("children", 2, y.section(0, 5));
    }

    private static void titleWidth() {
        ContentsSetter x = base();
        int[] widths = {12, 13, 10, 20, 9};
        for (int i = 0; i < widths.length; i++) {
            check.due("titleWidth " + i, widths[i], x.titleWidth(i));
        }
        check.dueThrow("titleWidth(5)", INDEX, () -> x.titleWidth(5));
        check.dueThrow("titleWidth(-1)", INDEX, () -> x.titleWidth(-1));
        check.due("all letters", 52 - 6 + 2, Driver.loaded(START
                + "section 1 lines 0 abcdefghijkl;section 1 lines 0 mnopqrstuvwx;section 1 lines 0 yz;")
                .titleWidth(0) + Driver.loaded(START + "section 1 lines 0 mnopqrstuvwx;").titleWidth(0)
                + Driver.loaded(START + "section 1 lines 0 yz;").titleWidth(0));
        ContentsSetter y = Driver.loaded(START + "main;" + many(11, "section 1 lines 0 a;"));
        check.due("label 11", 1 + 1 + 1 + 2, y.titleWidth(10));
        check.due("label 10", 1 + 2 + 1 + 2, y.titleWidth(9));
    }

    private static void pages() {
        ContentsSetter x = base();
        int[] pages = {2, 1, 1, 1, 3};
        int[] bookPages = {2, 3, 3, 3, 5};
        int[] lines = {0, 0, 13, 18, 0};
        int[] widths = {2, 1, 1, 1, 2};
        for (int i = 0; i < pages.length; i++) {
            check.due("page " + i, pages[i], x.page(i));
            check.due("bookPage " + i, bookPages[i], x.bookPage(i));
            check.due("lineOnPage " + i, lines[i], x.lineOnPage(i));
            check.due("numberWidth " + i, widths[i], x.numberWidth(i));
        }
        for (int i = -1; i < 6; i += 6) {
            int none = i;
            check.dueThrow("page(" + i + ")", INDEX, () -> x.page(none));
            check.dueThrow("bookPage(" + i + ")", INDEX, () -> x.bookPage(none));
            check.dueThrow("lineOnPage(" + i + ")", INDEX, () -> x.lineOnPage(none));
            check.dueThrow("numberWidth(" + i + ")", INDEX, () -> x.numberWidth(none));
        }
        x.setLength(2, 5);
        check.due("one line left is not enough", 2, x.page(3));
        check.due("one line left is not enough: line", 0, x.lineOnPage(3));
        x.setLength(2, 6);
        check.due("no line left", 2, x.page(3));
        x.setLength(2, 7);
        check.due("went on to the next page", 1, x.lineOnPage(3));
        // Lines 13 to 19 and 4 more fill two pages to the last line: the chapter takes the third.
        x.setLength(2, 6);
        x.setLength(3, 19);
        check.due("chapter behind a full page", 3, x.page(4));
        x.setLength(3, 20);
        check.due("chapter behind a line of a page", 4, x.page(4));
    }

    private static void rightPages() {
        ContentsSetter x = Driver.loaded(START + "right;section 1 lines 0 a;section 1 lines 17 b;section 2 lines 0 c;"
                + "section 1 lines 0 d;main;section 1 lines 17 e;section 1 lines 18 f;section 1 lines 0 g;");
        int[] pages = {3, 5, 6, 7, 1, 3, 5};
        int[] bookPages = {3, 5, 6, 7, 9, 11, 13};
        for (int i = 0; i < pages.length; i++) {
            check.due("right page " + i, pages[i], x.page(i));
            check.due("right bookPage " + i, bookPages[i], x.bookPage(i));
        }
        check.due("main part on a right page", 9, x.count(5));
        check.due("pages of the book", 13, x.count(4));
        x.setRight(false);
        check.due("no right page", 2, x.page(0));
    }

    private static void findPage() {
        ContentsSetter x = base();
        check.due("findPage(0, 2)", 0, x.findPage(0, 2));
        check.due("findPage(0, 1)", -1, x.findPage(0, 1));
        check.due("findPage(1, 1)", 1, x.findPage(1, 1));
        check.due("findPage(1, 2)", -1, x.findPage(1, 2));
        check.due("findPage(1, 3)", 4, x.findPage(1, 3));
        check.due("findPage(1, 0)", -1, x.findPage(1, 0));
        check.due("findPage(1, least)", -1, x.findPage(1, Integer.MIN_VALUE));
        check.dueThrow("findPage(-1, 1)", ARGUMENT, () -> x.findPage(-1, 1));
        check.dueThrow("findPage(2, 1)", ARGUMENT, () -> x.findPage(2, 1));
    }

    private static void sectionAt() {
        ContentsSetter x = base();
        int[] sections = {-1, 0, 3, 3, 4};
        for (int i = 0; i < sections.length; i++) {
            check.due("sectionAt(" + (i + 1) + ")", sections[i], x.sectionAt(i + 1));
        }
        check.dueThrow("sectionAt(0)", INDEX, () -> x.sectionAt(0));
        check.dueThrow("sectionAt(6)", INDEX, () -> x.sectionAt(6));
        check.dueThrow("sectionAt(1) of a new book", INDEX, () -> new ContentsSetter().sectionAt(1));
    }

    /** Limit 16: the words of the first entry break; the second has no room for its two dots. */
    private static ContentsSetter narrow() {
        return Driver.loaded("book width 20 lines 2 page 5;style indent 2 hang 3 gap 1 dots 2 grid 3;"
                + "section 1 lines 0 aaa aaaa aa;section 2 lines 0 bb bbb;section 1 lines 0 mmmmmmmmmmmm;");
    }

    private static void lines() {
        ContentsSetter x = narrow();
        // Five lines are three pages: numbers iv, iv and v; the column is 3.
        check.due("narrow table", "aaa aaaa\n   aa ... iv\n  bb\n     bbb .. iv\nmmmmmmmmmmmm  v\n", Driver.table(x));
        check.due("limit", 16, x.count(7));
        int[] first = {0, 2, 4};
        int[] howMany = {2, 2, 1};
        for (int i = 0; i < 3; i++) {
            check.due("firstLine " + i, first[i], x.firstLine(i));
            check.due("lineCount " + i, howMany[i], x.lineCount(i));
        }
        int[][] values = {{0, 0, 15, 2, 1}, {0, 3, 7, 1, 1}, {1, 2, 6, 1, 2}, {1, 5, 11, 1, 2}, {2, 0, 36, 1, 3}};
        for (int i = 0; i < 5; i++) {
            for (int j = 0; j < 5; j++) {
                check.due("line(" + i + ", " + j + ")", values[i][j], x.line(i, j));
            }
        }
        check.dueThrow("firstLine(3)", INDEX, () -> x.firstLine(3));
        check.dueThrow("firstLine(-1)", INDEX, () -> x.firstLine(-1));
        check.dueThrow("lineCount(3)", INDEX, () -> x.lineCount(3));
        check.dueThrow("lineCount(-1)", INDEX, () -> x.lineCount(-1));
        check.dueThrow("line(5, 0)", INDEX, () -> x.line(5, 0));
        check.dueThrow("line(-1, 9)", INDEX, () -> x.line(-1, 9));
        check.dueThrow("line(0, 5)", ARGUMENT, () -> x.line(0, 5));
        check.dueThrow("line(0, -1)", ARGUMENT, () -> x.line(0, -1));
    }

    private static void dots() {
        ContentsSetter x = narrow();
        // x at least 8 and at most 20 - 3 - 1 - 1: 9, 12 and 15; behind bbb 12 and 15; none behind m.
        check.due("dotCount(1)", 3, x.dotCount(1));
        check.due("firstDot(1)", 9, x.firstDot(1));
        check.due("dotCount(3)", 2, x.dotCount(3));
        check.due("firstDot(3)", 12, x.firstDot(3));
        check.due("dotCount(4)", 0, x.dotCount(4));
        check.due("firstDot(4)", ContentsSetter.NONE, x.firstDot(4));
        check.dueThrow("dotCount(0)", ELEMENT, () -> x.dotCount(0));
        check.dueThrow("firstDot(2)", ELEMENT, () -> x.firstDot(2));
        check.dueThrow("dotCount(5)", INDEX, () -> x.dotCount(5));
        check.dueThrow("firstDot(5)", INDEX, () -> x.firstDot(5));
        check.dueThrow("dotCount(-1)", INDEX, () -> x.dotCount(-1));
        check.dueThrow("firstDot(-1)", INDEX, () -> x.firstDot(-1));
        ContentsSetter one = Driver.loaded("book width 20 lines 2 page 5;style indent 2 hang 3 gap 1 dots 1 grid 4;"
                + "section 1 lines 0 preface;");
        // x at least 13 and at most 20 - 2 - 1 - 1.
        check.due("the only unit for a dot", 1, one.dotCount(0));
        check.due("the only dot", 16, one.firstDot(0));
        int[] at = new int[20];
        at[9] = 1;
        at[12] = 2;
        at[15] = 2;
        for (int i = 0; i < at.length; i++) {
            check.due("dotsAt(" + i + ")", at[i], x.dotsAt(i));
        }
        check.due("dotsAt(greatest)", 0, x.dotsAt(Integer.MAX_VALUE));
        check.dueThrow("dotsAt(-1)", ARGUMENT, () -> x.dotsAt(-1));
        ContentsSetter y = base();
        check.due("number 1 is narrow, but 37 is no multiple", 0, y.dotsAt(37));
        y.setGrid(1);
        check.due("dots next to a narrow number", 3, y.dotsAt(37));
        check.due("no dot in the gap", 0, y.dotsAt(38));
        check.due("first dot behind the gap", 10, y.firstDot(4));
    }

    private static void overfull() {
        ContentsSetter x = narrow();
        for (int i = 0; i < 5; i++) {
            check.due("isOverfull(" + i + ")", i == 4, x.isOverfull(i));
        }
        check.due("overfullCount", 1, x.overfullCount());
        check.dueThrow("isOverfull(5)", INDEX, () -> x.isOverfull(5));
        check.dueThrow("isOverfull(-1)", INDEX, () -> x.isOverfull(-1));
        // Column 2 and gap 1: the limit is the width less 3, the title is 30 wide.
        ContentsSetter y = Driver.loaded(START + "section 1 lines 0 mmmmmmmmmm;");
        y.setWidth(33);
        check.due("a line that ends at the limit", false, y.isOverfull(0));
        y.setWidth(32);
        check.due("a line that ends beyond the limit", true, y.isOverfull(0));
        check.due("overfullCount of the first line", 1, y.overfullCount());
        check.due("overfullCount of a new book", 0, new ContentsSetter().overfullCount());
    }

    private static void rounds() {
        check.due("rounds", 1, base().rounds());
        check.due("rounds of narrow", 2, narrow().rounds());
        check.due("no sections", 0, Driver.loaded(START).rounds());
        ContentsSetter x = Driver.loaded(UNSETTLED);
        check.due("unsettled rounds", 8, x.rounds());
        check.due("greatest number of pages", 2, x.count(3));
        check.due("lines of the last setting", 2, x.count(2));
        check.due("page", 9, x.page(1));
        check.due("pages of the book", 9, x.count(4));
        check.due("unsettled table", "a ..... iii\naaa aaaa  ix\n", Driver.table(x));
    }

    private static void collisions() {
        // Pages 1, 31, 48, 57, 68; two figures of other widths meet, ones over tens do not.
        ContentsSetter x = Driver.loaded("book width 60 lines 40 page 5;main;section 1 lines 147 a;"
                + "section 1 lines 82 b;section 1 lines 42 c;section 1 lines 52 d;section 1 lines 0 e;");
        int[] pages = {1, 31, 48, 57, 68};
        boolean[] collide = {false, true, false, true, false};
        for (int i = 0; i < pages.length; i++) {
            check.due("page " + i, pages[i], x.page(i));
            check.due("collides(" + i + ")", collide[i], x.collides(i));
        }
        check.due("collisions", 2, x.collisions());
        check.dueThrow("collides(5)", INDEX, () -> x.collides(5));
        check.dueThrow("collides(-1)", INDEX, () -> x.collides(-1));
        String pair = "section 1 lines 7 a;section 1 lines 22 b;section 1 lines 0 c;";
        check.due("3 over 8", true, Driver.loaded("book width 60 lines 40 page 5;main;" + pair).collides(1));
        ContentsSetter w = Driver.loaded("book width 60 lines 40 page 5;main;" + pair);
        w.remove(2);
        check.due("no line behind", false, w.collides(1));
        ContentsSetter y = Driver.loaded("book width 60 lines 2 page 5;main;" + pair);
        check.due("neighbours on two pages", false, y.collides(1));
        check.due("collisions on two pages", 0, y.collisions());
        ContentsSetter z = Driver.loaded("book width 60 lines 40 page 5;main;section 1 lines 7 a;"
                + "section 1 lines 22 b;section 1 lines 0 mmmmmmmmmmmm mmmmmmmmmmmm;");
        check.due("neighbours that end entries", false, z.collides(1));
        check.due("8 in the second line", 8, z.page(2));
        check.due("lines of the last entry", 2, z.lineCount(2));
        // Roman numbers have no figures.
        check.due("front part", 0, Driver.loaded("book width 60 lines 40 page 5;" + pair).collisions());
        for (int upper = 1; upper <= 9; upper++) {
            for (int lower = upper + 1; lower <= 9; lower++) {
                ContentsSetter p = Driver.loaded("book width 60 lines 40 page 5;main;section 1 lines "
                        + Math.max(0, 5 * (upper - 1) - 3) + " a;section 1 lines " + (5 * (lower - upper) - 3)
                        + " b;section 1 lines 0 c;");
                boolean meet = upper > 2 && upper != 6 && upper != 8 && (lower == 6 || lower == 8);
                if (upper > 1) {
                    check.due(upper + " over " + lower, meet, p.collides(1));
                }
            }
        }
    }

    private static void words() {
        ContentsSetter x = Driver.loaded(START + "section 1 lines 0 b ab a;section 1 lines 0 abc b b;"
                + "section 1 lines 0 a z;");
        int[] sets = {5, 1, 2, 3, 4};
        check.due("wordCount", 5, x.wordCount());
        for (int i = 0; i < sets.length; i++) {
            check.due("wordSections(" + i + ")", sets[i], x.wordSections(i));
        }
        check.dueThrow("wordSections(5)", INDEX, () -> x.wordSections(5));
        check.dueThrow("wordSections(-1)", INDEX, () -> x.wordSections(-1));
        String[] sought = {"a", "ab", "abc", "b", "z"};
        for (int i = 0; i < sought.length; i++) {
            check.due("findWord " + sought[i], i, Driver.find(x, sought[i]));
            check.due("buffer is empty", 20, x.append(0, 0, 0, 0, 0));
            x.truncate(0);
        }
        for (String none : new String[] {"", "c", " a", "a ", "a b", "A", "abcdefghijklmn", "1", "a\n", "a`", "a{"}) {
            check.due("findWord <" + none + ">", ContentsSetter.NONE, Driver.find(x, none));
        }
        ContentsSetter y = Driver.loaded(START + "section 1 lines 0 aaaaaaaaaaac aaaaaaaaaaab aaaaaaaaaaa b;"
                + "section 1 lines 0 aaaaaaaaaaac;section 1 lines 0 aaaaaaaaaaab;section 1 lines 0 b;");
        int[] longSets = {1, 5, 3, 9};
        for (int i = 0; i < longSets.length; i++) {
            check.due("wordSections(" + i + ") of long words", longSets[i], y.wordSections(i));
        }
        x.remove(0);
        check.due("wordCount after remove", 4, x.wordCount());
        check.due("wordSections after remove", 2, x.wordSections(0));
        check.due("a label is no word", 1, Driver.loaded(START + "main;section 1 lines 0 a;").wordCount());
    }

    private static void setLength() {
        ContentsSetter x = base();
        check.due("setLength", 10, x.setLength(1, 500));
        check.due("new length", 500, x.section(1, 1));
        check.due("setLength again", 500, x.setLength(1, 0));
        check.due("page behind", 1, x.page(2));
        check.due("line behind", 3, x.lineOnPage(2));
        check.dueThrow("setLength(5, 501)", INDEX, () -> x.setLength(5, 501));
        check.dueThrow("setLength(-1, 0)", INDEX, () -> x.setLength(-1, 0));
        check.dueThrow("setLength(0, 501)", ARGUMENT, () -> x.setLength(0, 501));
        check.dueThrow("setLength(0, -1)", ARGUMENT, () -> x.setLength(0, -1));
        check.due("undoable", 3, x.undoCount());
    }

    private static void setLevel() {
        ContentsSetter x = base();
        check.due("setLevel", 2, x.setLevel(3, 3));
        check.due("label", "    1.1.1 more rest .... 1\n", Driver.line(x, 3));
        check.dueThrow("not level 1 of a section before a 3", ARGUMENT, () -> x.setLevel(2, 1));
        check.dueThrow("first of its part", ARGUMENT, () -> x.setLevel(1, 2));
        check.dueThrow("first of all", ARGUMENT, () -> x.setLevel(0, 2));
        check.dueThrow("2 greater", ARGUMENT, () -> x.setLevel(3, 4));
        check.dueThrow("level 0", ARGUMENT, () -> x.setLevel(3, 0));
        check.dueThrow("level 5", ARGUMENT, () -> x.setLevel(3, 5));
        check.dueThrow("no section", INDEX, () -> x.setLevel(5, 9));
        check.due("undoable", 2, x.undoCount());
        check.due("level as before", 3, x.setLevel(3, 3));
        check.due("level 2 before a 3", 2, x.setLevel(2, 2));
        x.undo();
        check.due("undoable", 3, x.undoCount());
        check.due("to a chapter", 3, x.setLevel(3, 1));
        check.due("chapter's page", 2, x.page(3));
        check.due("label behind", "3 end ......... 3\n", Driver.line(x, 4));
    }

    private static void setTitle() {
        ContentsSetter x = base();
        check.due("setTitle", 2, Driver.setTitle(x, 1, " \n new\n\nwords here "));
        check.due("buffer is empty", 20, x.append(0, 0, 0, 0, 0));
        x.truncate(0);
        check.due("table", "1 new words here ... 1\n", Driver.line(x, 1));
        check.due("setTitle again", 3, Driver.setTitle(x, 1, "a b c d e f g abcdefghijkl"));
        check.due("words", 8, x.section(1, 3));
        for (String none : new String[] {"", "  ", "a1", "a;", "A", "a b c d e f g h i", "abcdefghijklm", "a\tb"}) {
            x.truncate(0);
            Driver.feed(x, none);
            check.dueThrow("setTitle <" + none + ">", ARGUMENT, () -> x.setTitle(1));
            check.due("buffer is kept", none.length() + 20, x.append(0, 0, 0, 0, 0));
        }
        x.truncate(0);
        check.dueThrow("setTitle(5)", INDEX, () -> x.setTitle(5));
        check.dueThrow("setTitle(-1)", INDEX, () -> x.setTitle(-1));
        check.due("undoable", 3, x.undoCount());
        Driver.feed(x, "a");
        check.dueThrow("setTitle(5) with a title", INDEX, () -> x.setTitle(5));
        check.due("the title is still there", 8, x.setTitle(1));
    }

    private static void insert() {
        ContentsSetter x = base();
        check.due("insert into the front part", 6, Driver.insert(x, 0, 1, 3, "new one"));
        check.due("part", 0, x.section(0, 2));
        check.due("front part", 2, x.count(1));
        check.due("buffer is empty", 20, x.append(0, 0, 0, 0, 0));
        x.truncate(0);
        check.due("insert where the main part begins", 7, Driver.insert(x, 2, 1, 0, "a"));
        check.due("part", 1, x.section(2, 2));
        check.due("front part", 2, x.count(1));
        check.due("insert at the end", 8, Driver.insert(x, 7, 2, 500, "\nz z "));
        check.due("part of the last", 1, x.section(7, 2));
        check.due("words", 2, x.section(7, 3));
        check.due("length", 500, x.section(7, 1));
        check.due("level", 2, x.section(7, 0));
        check.due("ordinals", 3, x.section(6, 6));
        String table = Driver.table(x);
        Driver.feed(x, "a");
        check.dueThrow("section 9", INDEX, () -> x.insert(9, 9, 501));
        check.dueThrow("section -1", INDEX, () -> x.insert(-1, 1, 0));
        check.dueThrow("level 0", ARGUMENT, () -> x.insert(8, 0, 0));
        check.dueThrow("level 5", ARGUMENT, () -> x.insert(8, 5, 0));
        check.dueThrow("lines -1", ARGUMENT, () -> x.insert(8, 1, -1));
        check.dueThrow("lines 501", ARGUMENT, () -> x.insert(8, 1, 501));
        check.dueThrow("level 4 behind 2", ARGUMENT, () -> x.insert(8, 4, 0));
        check.dueThrow("level 2 at the begin of a part", ARGUMENT, () -> x.insert(2, 2, 0));
        x.truncate(0);
        check.dueThrow("no title", ARGUMENT, () -> x.insert(8, 1, 0));
        check.due("nothing changed", table, Driver.table(x));
        check.due("undoable", 4, x.undoCount());

        ContentsSetter y = Driver.loaded(START + "section 1 lines 0 a;section 2 lines 0 a;section 3 lines 0 a;main;");
        Driver.feed(y, "b");
        check.dueThrow("level 1 before a 3", ARGUMENT, () -> y.insert(2, 1, 0));
        check.due("level 3 before a 3", 4, y.insert(2, 3, 0));
        check.due("end of a book without a main part", 5, Driver.insert(y, 4, 1, 0, "b"));
        check.due("part", 0, y.section(4, 2));
        check.due("insert into a new book", 1, Driver.insert(new ContentsSetter(), 0, 1, 0, "b"));

        ContentsSetter z = Driver.loaded(START + many(24, "section 1 lines 0 a;"));
        Driver.feed(z, "b");
        check.dueThrow("25th section of a level that cannot be", ARGUMENT, () -> z.insert(0, 2, 0));
        check.dueThrow("25th section", STATE, () -> z.insert(0, 1, 0));
        check.due("buffer is kept", 21, z.append(0, 0, 0, 0, 0));
        z.truncate(0);
        check.dueThrow("25th section without a title", ARGUMENT, () -> z.insert(0, 1, 0));
    }

    private static void remove() {
        ContentsSetter x = base();
        check.due("remove one", 1, x.remove(3));
        check.due("remove with those below", 2, x.remove(1));
        check.due("sections", 2, x.count(0));
        check.due("table", "preface ........ ii\n1 end .......... 1\n", Driver.table(x));
        check.due("remove the front part", 1, x.remove(0));
        check.due("front part", 0, x.count(1));
        check.due("part of the rest", 1, x.section(0, 2));
        check.dueThrow("remove(1)", INDEX, () -> x.remove(1));
        check.dueThrow("remove(-1)", INDEX, () -> x.remove(-1));
        check.due("remove the last", 1, x.remove(0));
        check.due("pages of the table", 0, x.count(3));
        Driver.feed(x, "a");
        check.due("insert into the empty book", 1, x.insert(0, 1, 0));
        check.due("part of a first section", 0, x.section(0, 2));
        ContentsSetter y = Driver.loaded(START + "section 1 lines 0 a;section 2 lines 0 a;main;section 1 lines 0 b;");
        check.due("up to the end of the part", 2, y.remove(0));
        ContentsSetter z = Driver.loaded(START + "section 1 lines 0 a;section 2 lines 0 a;section 3 lines 0 a;"
                + "section 2 lines 0 a;section 3 lines 0 a;");
        check.due("up to one of the same level", 2, z.remove(1));
        check.due("rest", 3, z.count(0));
    }

    private static void settings() {
        ContentsSetter x = base();
        check.due("setWidth", 40, x.setWidth(20));
        check.due("new width", 20, x.setting(0));
        check.due("limit", 17, x.count(7));
        check.due("setWidth again", 20, x.setWidth(120));
        check.dueThrow("setWidth(19)", ARGUMENT, () -> x.setWidth(19));
        check.dueThrow("setWidth(121)", ARGUMENT, () -> x.setWidth(121));
        check.due("setGrid", 3, x.setGrid(9));
        check.due("first dot on the grid", 18, x.firstDot(0));
        check.due("setGrid again", 9, x.setGrid(1));
        check.dueThrow("setGrid(0)", ARGUMENT, () -> x.setGrid(0));
        check.dueThrow("setGrid(10)", ARGUMENT, () -> x.setGrid(10));
        check.due("setRight", false, x.setRight(true));
        check.due("page", 3, x.page(0));
        check.due("setRight again", true, x.setRight(true));
        check.due("undoable", 6, x.undoCount());
    }

    private static void proofs() {
        ContentsSetter x = base();
        check.due("toRead before a proof", 31, x.toRead());
        check.due("changedLines before a proof", 5, x.changedLines());
        check.due("proof", 5, x.proof());
        check.due("toRead", 0, x.toRead());
        check.due("changedLines", 0, x.changedLines());
        // With 27 lines more the last section begins on page 4; the others stay where they are.
        x.setLength(3, 30);
        check.due("a number changed", 16, x.toRead());
        check.due("a line changed", 1, x.changedLines());
        x.setLength(3, 3);
        check.due("changed back", 0, x.toRead());
        Driver.setTitle(x, 0, "qreface");
        check.due("another first letter", 1, x.toRead());
        check.due("another first letter: lines", 1, x.changedLines());
        Driver.setTitle(x, 0, "preface");
        check.due("the same title", 0, x.toRead());
        Driver.insert(x, 1, 1, 0, "preface");
        check.due("added, and all labels behind it", 2 + 4 + 8 + 16 + 32, x.toRead());
        x.remove(1);
        check.due("removed again", 0, x.toRead());
        x.remove(4);
        check.due("no line there any more", 1, x.changedLines());
        Driver.insert(x, 4, 1, 0, "end");
        check.due("added again is added", 16, x.toRead());
        check.due("the line is the same", 0, x.changedLines());
        check.due("proof of one", 1, x.proof());
        x.undo();
        check.due("the proof before", 16, x.toRead());
        check.due("proof of a new book", 0, new ContentsSetter().proof());
        ContentsSetter y = base();
        y.proof();
        y.remove(0);
        check.due("other numbers", 0, y.toRead());
        check.due("all lines went up", 5, y.changedLines());
        y.setGrid(4);
        check.due("other dots", 15, y.toRead());
        y.undo();
        y.undo();
        y.undo();
        check.due("proof undone", 31, y.toRead());
        check.due("proof undone: lines", 5, y.changedLines());
    }

    private static void slack() {
        ContentsSetter x = base();
        check.due("front part alone", 99, x.slack(0));
        // Section 3 stands on lines 18 to 21 of its part and section 2 on 13 to 17.
        check.due("slack(2)", 0, x.slack(2));
        check.due("slack(1)", 0, x.slack(1));
        check.due("slack(3)", 18, x.slack(3));
        check.due("the last section", 99, x.slack(4));
        check.dueThrow("slack(5)", INDEX, () -> x.slack(5));
        check.dueThrow("slack(-1)", INDEX, () -> x.slack(-1));
        check.due("slack changes nothing", BASE_TABLE, Driver.table(x));
        check.due("slack is not undone", 1, x.undoCount());
        x.setLength(3, 490);
        check.due("beyond 500", 11, x.slack(3));
        ContentsSetter y = Driver.loaded("book width 40 lines 10 page 99;section 1 lines 0 a;section 1 lines 0 b;");
        check.due("96 lines are left", 96, y.slack(0));
        y.setLength(0, 96);
        check.due("no line is left", 0, y.slack(0));
        y.setLength(0, 97);
        check.due("98 lines are left", 98, y.slack(0));
        y.setLength(0, 95);
        check.due("a line is left", 1, y.slack(0));
    }

    private static void pagesIf() {
        ContentsSetter x = base();
        check.due("pagesIf as it is", 5, x.pagesIf(3, 3));
        check.due("a full page", 5, x.pagesIf(3, 21));
        check.due("a line more", 6, x.pagesIf(3, 22));
        check.due("500 lines", 5 + 25, x.pagesIf(4, 500));
        check.dueThrow("pagesIf(5, 501)", INDEX, () -> x.pagesIf(5, 501));
        check.dueThrow("pagesIf(-1, 0)", INDEX, () -> x.pagesIf(-1, 0));
        check.dueThrow("pagesIf(0, 501)", ARGUMENT, () -> x.pagesIf(0, 501));
        check.dueThrow("pagesIf(0, -1)", ARGUMENT, () -> x.pagesIf(0, -1));
        check.due("pagesIf changes nothing", BASE_TABLE, Driver.table(x));
        check.due("pagesIf is not undone", 1, x.undoCount());
    }

    private static void widths() {
        ContentsSetter x = Driver.loaded(UNSETTLED);
        check.due("leastWidth(1)", 21, x.leastWidth(1));
        check.due("leastWidth(2)", 20, x.leastWidth(2));
        check.due("leastWidth(20)", 20, x.leastWidth(20));
        check.dueThrow("leastWidth(0)", ARGUMENT, () -> x.leastWidth(0));
        check.dueThrow("leastWidth(21)", ARGUMENT, () -> x.leastWidth(21));
        check.due("no width", ContentsSetter.NONE, narrow().leastWidth(1));
        check.due("leastWidth without sections", 20, Driver.loaded(START).leastWidth(1));
        check.due("width is kept", 20, x.setting(0));
        // The last word needs 36 units, the gap 1 and the column (iii) 3; then all titles fit their lines.
        ContentsSetter y = narrow();
        check.due("bestWidth", 40, y.bestWidth());
        check.due("bestWidth of no sections", 20, new ContentsSetter().bestWidth());
        check.due("bestWidth without overfull lines", 20, x.bestWidth());
        check.due("width is kept", 20, y.setting(0));
        // The first title is 117 units wide, the column 2: only with 120 units it stands in one line.
        ContentsSetter z = Driver.loaded("book width 20 lines 2 page 20;style indent 2 hang 3 gap 1 dots 0 grid 3;"
                + "section 1 lines 0 mmmmmmmmmmmm mmmmmmmmmmmm mmmmmmmmmmmm iiiiii;section 2 lines 0 a;");
        check.due("greatest leastWidth", 120, z.leastWidth(1));
        check.due("greatest bestWidth", 120, z.bestWidth());
        check.due("not undone", 1, y.undoCount());
    }

    private static void orders() {
        ContentsSetter x = base();
        int[] pages = {3, 2, 5, -1};
        int[] sections = {3, 1, 0, 2, 4, -1};
        for (int i = 0; i < pages.length; i++) {
            check.due("crowded(" + i + ")", pages[i], x.crowded(i));
        }
        for (int i = 0; i < sections.length; i++) {
            check.due("longest(" + i + ")", sections[i], x.longest(i));
        }
        check.due("crowded(greatest)", -1, x.crowded(Integer.MAX_VALUE));
        check.due("longest(greatest)", -1, x.longest(Integer.MAX_VALUE));
        check.dueThrow("crowded(-1)", ARGUMENT, () -> x.crowded(-1));
        check.dueThrow("longest(-1)", ARGUMENT, () -> x.longest(-1));
        ContentsSetter y = Driver.loaded(START + "section 1 lines 0 a;section 1 lines 0 bb;section 1 lines 0 cc;");
        check.due("longest of two as long", 1, y.longest(0));
        check.due("and the next", 2, y.longest(1));
    }

    private static void undo() {
        ContentsSetter x = new ContentsSetter();
        check.dueThrow("undo of nothing", STATE, () -> x.undo());
        Driver.load(x, BASE);
        check.due("undoCount", 1, x.undoCount());
        check.due("undo of load", 0, x.undo());
        check.due("no sections", 0, x.count(0));
        check.due("width", 60, x.setting(0));
        Driver.load(x, BASE);
        x.setLength(1, 11);
        x.setLevel(3, 1);
        Driver.setTitle(x, 0, "other words");
        Driver.insert(x, 1, 1, 0, "inserted");
        x.remove(2);
        x.setWidth(50);
        check.due("the last six are kept", 6, x.undoCount());
        check.due("undo of setWidth", 5, x.undo());
        check.due("width", 40, x.setting(0));
        check.due("undo of remove", 4, x.undo());
        check.due("sections", 6, x.count(0));
        check.due("undo of insert", 3, x.undo());
        check.due("front part", 1, x.count(1));
        check.due("undo of setTitle", 2, x.undo());
        check.due("line", "preface ........ ii\n", Driver.line(x, 0));
        Driver.feed(x, "kept");
        check.due("undo of setLevel", 1, x.undo());
        check.due("output is kept", 'p', x.outputByte(0));
        check.due("input is kept", 24, x.append(0, 0, 0, 0, 0));
        check.due("level", 2, x.section(3, 0));
        check.due("undo of setLength", 0, x.undo());
        check.due("table", BASE_TABLE, Driver.table(x));
        check.dueThrow("load is not kept any more", STATE, () -> x.undo());
        x.setGrid(5);
        x.setRight(true);
        x.proof();
        check.due("undo of proof", 2, x.undo());
        check.due("all must be read", 31, x.toRead());
        x.undo();
        check.due("undo of setRight", false, x.isRight());
        x.undo();
        check.due("undo of setGrid", 3, x.setting(7));
        check.due("undoCount", 0, x.undoCount());
    }

    private static void output() {
        ContentsSetter x = base();
        check.due("writeLine", 20, x.writeLine(0));
        check.due("first byte", 'p', x.outputByte(0));
        check.due("last byte", '\n', x.outputByte(19));
        check.dueThrow("outputByte(20)", INDEX, () -> x.outputByte(20));
        check.dueThrow("outputByte(-1)", INDEX, () -> x.outputByte(-1));
        check.due("line", "  1.2 more rest ..... 1\n", Driver.line(x, 3));
        check.dueThrow("writeLine(5)", INDEX, () -> x.writeLine(5));
        check.dueThrow("writeLine(-1)", INDEX, () -> x.writeLine(-1));
        check.due("a call that throws writes nothing", ' ', x.outputByte(0));
        check.due("writeTable", BASE_TABLE.length(), x.writeTable());
        check.due("table", BASE_TABLE, Driver.table(x));
        check.due("a new text", 20, x.writeLine(0));
        check.dueThrow("the old text is gone", INDEX, () -> x.outputByte(20));
        check.due("table of no lines", 0, new ContentsSetter().writeTable());
        ContentsSetter z = Driver.loaded("book width 60 lines 40 page 5;main;" + many(11, "section 1 lines 1 a;"));
        check.due("label and number of two figures", "10 a ................ 10\n", Driver.line(z, 9));
        z.setLength(0, 447);
        check.due("number of three figures", "11 a ................ 100\n", Driver.line(z, 10));
        // The longest lines that can be: none of their bytes is lost.
        ContentsSetter y = Driver.loaded("book width 20 lines 2 page 5;style indent 9 hang 9 gap 0 dots 9 grid 1;"
                + "section 1 lines 0 a;section 2 lines 0 a;section 3 lines 0 a;section 4 lines 0 a;");
        for (int i = 4; i < 24; i++) {
            Driver.insert(y, i, 4, 500, many(8, "abcdefghijkl "));
        }
        check.due("length of the longest table", true, y.writeTable() > 20 * (8 * 13 + 27 + 7 * 36));
        check.due("its last byte", '\n', y.outputByte(y.writeTable() - 1));
        String last = Driver.line(y, y.count(2) - 1);
        check.due("its last line", " ".repeat(36) + "abcdefghijkl  ", last.substring(0, 50));
    }

    private static void roman() {
        // Chapters of a page each: the numbers ii to xxv stand one below the other.
        String[] numbers = {"ii", "iii", "iv", "v", "vi", "vii", "viii", "ix", "x", "xi", "xii", "xiii", "xiv", "xv",
            "xvi", "xvii", "xviii", "xix", "xx", "xxi", "xxii", "xxiii", "xxiv", "xxv"};
        int[] widths = {2, 3, 3, 2, 3, 4, 5, 3, 2, 3, 4, 5, 5, 4, 5, 6, 7, 5, 4, 5, 6, 7, 7, 6};
        String book = "book width 60 lines 40 page 50;" + many(24, "section 1 lines 40 a;");
        for (int i = 0; i < numbers.length; i++) {
            ContentsSetter x = Driver.loaded(book);
            String line = Driver.line(x, i);
            check.due("number " + i, numbers[i] + "\n", line.substring(line.lastIndexOf(' ') + 1));
            check.due("numberWidth " + i, widths[i], x.numberWidth(i));
        }
        ContentsSetter y = Driver.loaded("book width 60 lines 40 page 5;" + many(24, "section 1 lines 500 a;"));
        int[] sections = {4, 9, 14, 19, 23};
        String[] great = {"cdvi", "cmxi", "mcdxvi", "mcmxxi", "mmcccxxv"};
        int[] greatWidths = {2 + 2 + 2 + 1, 2 + 3 + 2 + 1, 3 + 2 + 2 + 2 + 2 + 1, 3 + 2 + 3 + 2 + 2 + 1,
            3 + 3 + 2 + 2 + 2 + 2 + 2 + 2};
        for (int i = 0; i < great.length; i++) {
            String line = Driver.line(y, sections[i]);
            check.due("great number " + i, great[i] + "\n", line.substring(line.lastIndexOf(' ') + 1));
            check.due("great numberWidth " + i, greatWidths[i], y.numberWidth(sections[i]));
        }
    }

    public static void main(String[] args) {
        newObject();
        append();
        truncate();
        load();
        errorCodeAndPosition();
        count();
        setting();
        isRight();
        section();
        titleWidth();
        pages();
        rightPages();
        findPage();
        sectionAt();
        lines();
        dots();
        overfull();
        rounds();
        collisions();
        words();
        setLength();
        setLevel();
        setTitle();
        insert();
        remove();
        settings();
        proofs();
        slack();
        pagesIf();
        widths();
        orders();
        undo();
        output();
        roman();
        check.end();
    }
}
