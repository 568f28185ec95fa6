/** Sections 2 and 3 and promises 7 to 17, sentence by sentence: the edges of units, places and pages. */
public final class PagesEdgesTest {
    private static final Check check = new Check();

    // A page of text has 20 lines, so a chapter of 17 lines fills one.
    private static final String START = "book width 40 lines 10 page 20;";

    private static String chapter(int lines) {
        return "section 1 lines " + lines + " a;";
    }

    private static String other(int lines) {
        return "section 2 lines " + lines + " a;";
    }

    /** For each section its page, by its part and by the book, and its line there; then the book's pages. */
    private static void mustStandAt(String what, String text, int lastPage, int[]... places) {
        ContentsSetter x = Driver.loaded(text);
        for (int i = 0; i < places.length; i++) {
            check.due(what + ": page of section " + i, places[i][0], x.page(i));
            check.due(what + ": bookPage of section " + i, places[i][1], x.bookPage(i));
            check.due(what + ": lineOnPage of section " + i, places[i][2], x.lineOnPage(i));
        }
        check.due(what + ": pages of the book", lastPage, x.count(4));
    }

    private static int[] at(int page, int bookPage, int line) {
        return new int[] {page, bookPage, line};
    }

    /** In the front part both numbers are those of the book. */
    private static int[] at(int page, int line) {
        return at(page, page, line);
    }

    // ---- Section 2: "The letters f, i, j, l, r and t are 1 unit wide, m and w 3, other letters 2" ----

    private static void letters() {
        ContentsSetter x = Driver.loaded(START + chapter(0));
        for (char c = 'a'; c <= 'z'; c++) {
            int due = "fijlrt".indexOf(c) >= 0 ? 1 : "mw".indexOf(c) >= 0 ? 3 : 2;
            Driver.setTitle(x, 0, "" + c);
            check.due("width of " + c, due, x.titleWidth(0));
        }
        int[] widths = {12, 36, 24};
        String[] words = {"iiiiiiiiiiii", "wwwwwwwwwwww", "aaaaaaaaaaaa"};
        for (int i = 0; i < 3; i++) {
            Driver.setTitle(x, 0, words[i]);
            check.due("width of " + words[i], widths[i], x.titleWidth(0));
            Driver.setTitle(x, 0, (words[i] + " ").repeat(8));
            check.due("width of 8 times " + words[i], 8 * widths[i] + 7, x.titleWidth(0));
        }
    }

    /** "the figure 1 is 1 unit wide, other figures 2" */
    private static void figures() {
        ContentsSetter x = Driver.loaded(START + "main;" + chapter(17).repeat(24));
        for (int i = 0; i < 24; i++) {
            int due = 0;
            for (char figure : ("" + (i + 1)).toCharArray()) {
                due += figure == '1' ? 1 : 2;
            }
            check.due("numberWidth of " + (i + 1), due, x.numberWidth(i));
            check.due("titleWidth with the label " + (i + 1), due + 1 + 2, x.titleWidth(i));
        }
        ContentsSetter y = Driver.loaded("book width 40 lines 60 page 5;main;" + chapter(497).repeat(24));
        check.due("page 1", 1, y.numberWidth(0));
        check.due("page 101", 1 + 2 + 1, y.numberWidth(1));
        check.due("page 1001", 1 + 2 + 2 + 1, y.numberWidth(10));
        check.due("page 1101", 1 + 1 + 2 + 1, y.numberWidth(11));
        check.due("page 2301", 2301, y.page(23));
        check.due("width of 2301", 2 + 2 + 2 + 1, y.numberWidth(23));
        y.setLength(0, 442);
        check.due("page 2290", 2290, y.page(23));
        check.due("width of 2290", 8, y.numberWidth(23));
        check.due("page 990", 2 + 2 + 2, y.numberWidth(10));
        y.setLength(0, 493);
        check.due("a chapter of 99 pages and a line", 100, y.page(1) - y.page(0));
        y.setLength(0, 492);
        check.due("page 1000", 1000, y.page(10));
        check.due("width of 1000", 1 + 2 + 2 + 2, y.numberWidth(10));
        check.due("width of 100", 1 + 2 + 2, y.numberWidth(1));
    }

    private static String firstToken(ContentsSetter x, int section) {
        return Driver.line(x, section).trim().split(" ")[0];
    }

    /** "for each level from 1 to its own the ordinal number of its ancestor", "with full stops between them" */
    private static void labels() {
        int[] levels = {1, 2, 3, 4, 4, 3, 4, 2, 3, 1, 2};
        String[] labels = {"1", "1.1", "1.1.1", "1.1.1.1", "1.1.1.2", "1.1.2", "1.1.2.1", "1.2", "1.2.1", "2", "2.1"};
        int[] parents = {-1, 0, 1, 2, 2, 1, 5, 0, 7, -1, 9};
        int[] children = {2, 2, 2, 0, 0, 1, 0, 1, 0, 1, 0};
        int[] ordinals = {1, 1, 1, 1, 2, 2, 1, 2, 1, 2, 1};
        StringBuilder sections = new StringBuilder();
        for (int level : levels) {
            sections.append("section ").append(level).append(" lines 0 aa;");
        }
        ContentsSetter x = Driver.loaded(START + "main;" + sections);
        ContentsSetter y = Driver.loaded(START + sections);
        for (int i = 0; i < levels.length; i++) {
            check.due("label of section " + i, labels[i], firstToken(x, i));
            check.due("no label in the front part " + i, "aa", firstToken(y, i));
            check.due("parent of section " + i, parents[i], x.section(i, 4));
            check.due("sections whose parent it is " + i, children[i], x.section(i, 5));
            check.due("ordinal of section " + i, ordinals[i], x.section(i, 6));
            int stops = labels[i].length() / 2;
            int twos = labels[i].length() - labels[i].replace("2", "").length();
            check.due("titleWidth " + i, stops + stops + 1 + twos + 1 + 4, x.titleWidth(i));
            check.due("titleWidth in the front part " + i, 4, y.titleWidth(i));
        }
    }

    /** Parents, children, ordinals and labels are those of the sections that are there now. */
    private static void placesAfterEdits() {
        ContentsSetter x = Driver.loaded(START + "main;" + chapter(0) + other(0) + other(0) + chapter(0));
        x.setLevel(2, 3);
        x.setGrid(1);
        check.due("children of the first", 1, x.section(0, 5));
        check.due("children of the second", 1, x.section(1, 5));
        check.due("parent of the third", 1, x.section(2, 4));
        check.due("label of the third", "1.1.1", firstToken(x, 2));
        x.setLevel(2, 1);
        check.due("children of the first then", 1, x.section(0, 5));
        check.due("children of the second then", 0, x.section(1, 5));
        check.due("parent of the third then", ContentsSetter.NONE, x.section(2, 4));
        check.due("ordinal of the last then", 3, x.section(3, 6));
        x.remove(0);
        check.due("children of the first that is left", 0, x.section(0, 5));
        check.due("its label", "1", firstToken(x, 0));
        check.due("its titleWidth", 1 + 1 + 2, x.titleWidth(0));
        x.undo();
        check.due("children come back", 1, x.section(0, 5));
        check.due("labels come back", "3", firstToken(x, 3));
    }

    /** "Its parent is the latest section before it in its part": the parts do not know of one another. */
    private static void partsApart() {
        ContentsSetter x = Driver.loaded(START + chapter(0) + other(0) + chapter(0) + "main;" + chapter(0) + other(0));
        int[] parents = {-1, 0, -1, -1, 3};
        int[] ordinals = {1, 1, 2, 1, 1};
        int[] children = {1, 0, 0, 1, 0};
        for (int i = 0; i < 5; i++) {
            check.due("parent in its part " + i, parents[i], x.section(i, 4));
            check.due("ordinal in its part " + i, ordinals[i], x.section(i, 6));
            check.due("children in its part " + i, children[i], x.section(i, 5));
        }
        check.due("label of the first chapter of the main part", "1", firstToken(x, 3));
        ContentsSetter y = Driver.loaded(START + "main;" + chapter(0) + other(0).repeat(23));
        check.due("ordinal 23", 23, y.section(23, 6));
        check.due("label 1.23", 1 + 1 + 4 + 1 + 2, y.titleWidth(23));
        check.due("label 1.11", 1 + 1 + 2 + 1 + 2, y.titleWidth(11));
        check.due("23 children", 23, y.section(0, 5));
        check.due("label of two figures", "1.23", firstToken(y, 23));
    }

    // ---- Section 3: "A chapter begins on a new page, except where its page has no lines yet" ----

    private static void chapters() {
        mustStandAt("a chapter alone", START + chapter(0), 2, at(2, 0));
        mustStandAt("a chapter has 3 lines for its head", START + chapter(16), 2, at(2, 0));
        mustStandAt("a full page", START + chapter(17), 2, at(2, 0));
        mustStandAt("a line more", START + chapter(18), 3, at(2, 0));
        mustStandAt("behind 3 lines", START + chapter(0) + chapter(0), 3, at(2, 0), at(3, 0));
        mustStandAt("behind 19 lines", START + chapter(16) + chapter(0), 3, at(2, 0), at(3, 0));
        mustStandAt("behind a full page", START + chapter(17) + chapter(0), 3, at(2, 0), at(3, 0));
        mustStandAt("behind a page and a line", START + chapter(18) + chapter(0), 4, at(2, 0), at(4, 0));
        mustStandAt("behind two full pages", START + chapter(37) + chapter(0), 4, at(2, 0), at(4, 0));
        mustStandAt("pages of 5 lines", "book width 40 lines 10 page 5;" + chapter(2) + chapter(500) + chapter(0),
                2 + 1 + 101, at(2, 0), at(3, 0), at(104, 0));
        mustStandAt("pages of 99 lines", "book width 40 lines 10 page 99;" + chapter(96) + chapter(97) + chapter(0),
                5, at(2, 0), at(3, 0), at(5, 0));
    }

    /** "if less than its head and one more line is left on the page, it begins on the next page" */
    private static void others() {
        mustStandAt("3 lines are left", START + chapter(14) + other(0), 2, at(2, 0), at(2, 17));
        mustStandAt("2 lines are left", START + chapter(15) + other(0), 2, at(2, 0), at(2, 18));
        mustStandAt("1 line is left", START + chapter(16) + other(0), 3, at(2, 0), at(3, 0));
        mustStandAt("no line is left", START + chapter(17) + other(0), 3, at(2, 0), at(3, 0));
        mustStandAt("a line is on the next page", START + chapter(18) + other(0), 3, at(2, 0), at(3, 1));
        mustStandAt("a head is 1 line", START + chapter(0) + other(0) + other(0), 2, at(2, 0), at(2, 3), at(2, 4));
        mustStandAt("goes on to the next page", START + chapter(15) + other(5) + other(0), 3,
                at(2, 0), at(2, 18), at(3, 4));
        mustStandAt("goes on behind an empty line", START + chapter(16) + other(1) + other(0), 3,
                at(2, 0), at(3, 0), at(3, 2));
        mustStandAt("goes on to the last line", START + chapter(15) + other(21) + other(0), 4,
                at(2, 0), at(2, 18), at(4, 0));
        mustStandAt("level 4 is no chapter", START + chapter(0) + other(0) + "section 3 lines 0 a;section 4 lines 11 a;"
                + "section 4 lines 0 a;", 2, at(2, 0), at(2, 3), at(2, 4), at(2, 5), at(2, 17));
        String five = "book width 40 lines 10 page 5;";
        mustStandAt("5 lines, 2 left", five + chapter(0) + other(0), 2, at(2, 0), at(2, 3));
        mustStandAt("5 lines, 1 left", five + chapter(1) + other(0), 3, at(2, 0), at(3, 0));
        String most = "book width 40 lines 10 page 99;";
        mustStandAt("99 lines, 2 left", most + chapter(94) + other(0), 2, at(2, 0), at(2, 97));
        mustStandAt("99 lines, 1 left", most + chapter(95) + other(0), 3, at(2, 0), at(3, 0));
    }

    // ---- "The front part begins on the page behind the table, the main part on the page behind the front part" ----

    private static void partsOfTheBook() {
        mustStandAt("no sections", START, 0);
        mustStandAt("main part alone", START + "main;" + chapter(0), 2, at(1, 2, 0));
        mustStandAt("main part behind the front part", START + chapter(17) + "main;" + chapter(0), 3,
                at(2, 0), at(1, 3, 0));
        mustStandAt("a part ends with the last page that has lines", START + chapter(18) + "main;" + chapter(18), 5,
                at(2, 0), at(1, 4, 0));
        mustStandAt("no other section goes on in the main part", START + chapter(0) + "main;" + chapter(0) + other(0),
                3, at(2, 0), at(1, 3, 0), at(1, 3, 3));
        String tenLines = chapter(0) + other(0).repeat(9);
        check.due("10 lines are a page of the table", 2, Driver.loaded(START + tenLines).page(0));
        check.due("11 lines are two pages", 3, Driver.loaded(START + tenLines + other(0)).page(0));
        check.due("the main part behind them", 3, Driver.loaded(START + "main;" + tenLines + other(0)).bookPage(0));
        int[][] begins = {{0, 0}, {2, 3}, {3, 3}, {4, 5}};
        String[] texts = {START + chapter(0) + "main;", START + "main;" + chapter(0),
            START + "main;" + tenLines + other(0), START + chapter(37) + "main;" + chapter(0)};
        for (int i = 0; i < 4; i++) {
            ContentsSetter x = Driver.loaded(texts[i]);
            check.due("the main part begins " + i, begins[i][0], x.count(5));
            x.setRight(true);
            check.due("the main part begins on a right page " + i, i == 3 ? 5 : begins[i][1], x.count(5));
        }
        check.due("no sections, right pages", 0, Driver.loaded(START + "right;").count(4));
        check.due("no sections: begin of the main part", 0, Driver.loaded(START + "right;main;").count(5));
    }

    /** "with right pages, on the next such page with an odd number in its part" */
    private static void rightPages() {
        String right = START + "right;";
        mustStandAt("page 2 is left empty", right + chapter(17), 3, at(3, 0));
        mustStandAt("page 4 is left empty", right + chapter(17) + chapter(0), 5, at(3, 0), at(5, 0));
        mustStandAt("page 4 has a line", right + chapter(18) + chapter(0), 5, at(3, 0), at(5, 0));
        mustStandAt("page 4 is full", right + chapter(37) + chapter(0), 5, at(3, 0), at(5, 0));
        mustStandAt("page 5 has a line", right + chapter(38) + chapter(0), 7, at(3, 0), at(7, 0));
        mustStandAt("other sections go on", right + chapter(16) + other(0) + chapter(0), 5,
                at(3, 0), at(4, 0), at(5, 0));
        mustStandAt("no page is left empty at the end", right + chapter(0), 3, at(3, 0));
        mustStandAt("the main part behind page 3", right + chapter(0) + "main;" + chapter(17) + chapter(0), 7,
                at(3, 0), at(1, 5, 0), at(3, 7, 0));
        mustStandAt("the main part behind page 4", right + chapter(18) + "main;" + chapter(18) + chapter(38)
                + chapter(0), 11, at(3, 0), at(1, 5, 0), at(3, 7, 0), at(7, 11, 0));
        mustStandAt("two pages of the table", "book width 40 lines 2 page 20;right;" + chapter(0) + chapter(0)
                + chapter(0), 7, at(3, 0), at(5, 0), at(7, 0));
        mustStandAt("two pages of the table before the main part", "book width 40 lines 2 page 20;right;main;"
                + chapter(0) + chapter(0) + other(0), 5, at(1, 3, 0), at(3, 5, 0), at(3, 5, 3));
    }

    /** "Printed numbers are roman (small letters) in the front part and arabic in the main part." */
    private static void printed() {
        ContentsSetter x = Driver.loaded(START + chapter(17) + chapter(0) + "main;" + chapter(37) + chapter(0));
        check.due("number of the front part", "iii\n", Driver.line(x, 1).split(" ")[2]);
        check.due("first number of the main part", "1\n", Driver.line(x, 2).split(" ")[3]);
        check.due("number of the main part", "3\n", Driver.line(x, 3).split(" ")[3]);
        int[] widths = {2, 3, 1, 2};
        for (int i = 0; i < 4; i++) {
            check.due("numberWidth " + i, widths[i], x.numberWidth(i));
        }
    }

    /** Each number of pages that the front part can have and the main part can have. */
    private static void allNumbers() {
        for (int number = 2; number < 2300; number++) {
            // A chapter of 500 lines takes 101 pages of 5 lines.
            String before = chapter(500).repeat((number - 2) / 101)
                    + ((number - 2) % 101 > 0 ? chapter(5 * ((number - 2) % 101) - 3) : "");
            ContentsSetter x = Driver.loaded("book width 20 lines 60 page 5;" + before + chapter(0));
            ContentsSetter y = Driver.loaded("book width 20 lines 60 page 5;main;" + before + chapter(0));
            int last = x.count(0) - 1;
            check.due("page " + number, number, x.page(last));
            check.due("width of the roman number " + number, Model.width(Model.roman(number)), x.numberWidth(last));
            check.due("roman number " + number, Model.roman(number) + "\n", numberOf(x));
            check.due("arabic page " + (number - 1), number - 1, y.page(last));
            check.due("width of the number " + (number - 1), Model.width("" + (number - 1)), y.numberWidth(last));
            check.due("number " + (number - 1), (number - 1) + "\n", numberOf(y));
        }
    }

    private static String numberOf(ContentsSetter x) {
        String line = Driver.line(x, x.count(2) - 1);
        return line.substring(line.lastIndexOf(' ') + 1);
    }

    /** "Before the first successful load() the width is 60, the table has 40 lines and text 40 lines on a page" */
    private static void beforeTheFirstLoad() {
        ContentsSetter x = new ContentsSetter();
        check.due("a load that fails", ContentsSetter.PARSE_ERROR, Driver.load(x, START + "right;main;main;"));
        int[] settings = {60, 40, 40, 2, 3, 1, 2, 3};
        for (int i = 0; i < 8; i++) {
            check.due("setting " + i + " before the first load", settings[i], x.setting(i));
        }
        check.due("no right pages before the first load", false, x.isRight());
        Driver.insert(x, 0, 1, 37, "a");
        Driver.insert(x, 1, 1, 38, "a");
        Driver.insert(x, 2, 1, 0, "a");
        check.due("40 lines are a page", 3, x.page(1));
        check.due("41 lines are two pages", 5, x.page(2));
        String wide = "mmmmmmmmmmmm ".repeat(8);
        for (int i = 0; i < 5; i++) {
            Driver.insert(x, i, 1, 0, wide);
        }
        // Of two words, the second is alone in the last line for want of dots.
        Driver.setTitle(x, 5, wide);
        check.due("lines of the table", 8 * 6 + 2, x.count(2));
        check.due("50 lines are two pages of the table", 2, x.count(3));
        x.remove(0);
        check.due("42 lines", 42, x.count(2));
        check.due("42 lines are two pages", 2, x.count(3));
        x.remove(5);
        check.due("41 lines are two pages", 2, x.count(3));
        x.remove(5);
        check.due("40 lines", 40, x.count(2));
        check.due("40 lines are one page", 1, x.count(3));
    }

    // ---- Promise 7: count ----

    private static void mustCount(String what, ContentsSetter x, int... counts) {
        for (int i = 0; i < counts.length; i++) {
            check.due(what + ": count(" + i + ")", counts[i], x.count(i));
        }
    }

    private static void counts() {
        mustCount("a new book", new ContentsSetter(), 0, 0, 0, 0, 0, 0, 0, 59);
        mustCount("no sections", Driver.loaded(START), 0, 0, 0, 0, 0, 0, 0, 39);
        mustCount("one section", Driver.loaded(START + chapter(0)), 1, 1, 1, 1, 2, 0, 2, 37);
        mustCount("one section of the main part", Driver.loaded(START + "main;" + chapter(0)), 1, 0, 1, 1, 2, 2, 1, 38);
        // Three pages of the table: the chapters are on iv to xxvii, the widest number.
        mustCount("24 sections", Driver.loaded(START + chapter(0).repeat(24)), 24, 24, 24, 3, 27, 0, 8, 31);
        // The last number is 13 + 23 * 101 = 2336, mmcccxxxvi.
        mustCount("the narrowest table", Driver.loaded("book width 20 lines 2 page 5;style indent 9 hang 9 gap 9 "
                + "dots 9 grid 9;" + chapter(500).repeat(24)), 24, 24, 24, 12, 12 + 24 * 101, 0, 21, 20 - 21 - 9);
    }

    // ---- Promises 16 and 17: findPage and sectionAt ----

    private static void findPage() {
        ContentsSetter x = Driver.loaded(START + chapter(0) + other(0) + chapter(57) + "main;" + chapter(0) + other(0)
                + chapter(37) + chapter(0));
        // The front part: pages 2, 2, 3 (to 5); the main part: 1, 1, 2 (to 3), 4.
        int[] front = {-1, -1, 0, 2, -1, -1, -1};
        int[] main = {-1, 3, 5, -1, 6, -1, -1};
        for (int i = 0; i < 7; i++) {
            check.due("findPage(0, " + i + ")", front[i], x.findPage(0, i));
            check.due("findPage(1, " + i + ")", main[i], x.findPage(1, i));
        }
        for (int page : new int[] {Integer.MIN_VALUE, -1, Integer.MAX_VALUE}) {
            check.due("findPage(0, " + page + ")", ContentsSetter.NONE, x.findPage(0, page));
            check.due("findPage(1, " + page + ")", ContentsSetter.NONE, x.findPage(1, page));
        }
        for (int part : new int[] {Integer.MIN_VALUE, -1, 2, Integer.MAX_VALUE}) {
            check.dueThrow("findPage(" + part + ", 2)", Check.ARGUMENT, () -> x.findPage(part, 2));
        }
        ContentsSetter none = new ContentsSetter();
        check.due("findPage without sections", ContentsSetter.NONE, none.findPage(0, 1));
        check.due("findPage without a main part", ContentsSetter.NONE, none.findPage(1, 1));
        check.dueThrow("findPage(2, 1) without sections", Check.ARGUMENT, () -> none.findPage(2, 1));
    }

    private static void sectionAt() {
        ContentsSetter x = Driver.loaded(START + "right;" + chapter(0) + other(0) + chapter(38) + "main;" + chapter(0));
        // Page 1 the table, 2 empty, 3 two sections, 4 empty, 5 to 7 a chapter, 8 empty, 9 the main part.
        int[] sections = {-1, -1, 1, 1, 2, 2, 2, 2, 3};
        for (int i = 0; i < sections.length; i++) {
            check.due("sectionAt(" + (i + 1) + ")", sections[i], x.sectionAt(i + 1));
        }
        for (int page : new int[] {Integer.MIN_VALUE, -1, 0, 10, Integer.MAX_VALUE}) {
            check.dueThrow("sectionAt(" + page + ")", Check.INDEX, () -> x.sectionAt(page));
        }
        ContentsSetter y = Driver.loaded(START + chapter(18) + chapter(0));
        int[] alone = {-1, 0, 0, 1};
        for (int i = 0; i < alone.length; i++) {
            check.due("sectionAt(" + (i + 1) + ") of two chapters", alone[i], y.sectionAt(i + 1));
        }
        check.dueThrow("sectionAt(0) without sections", Check.INDEX, () -> Driver.loaded(START).sectionAt(0));
        check.dueThrow("sectionAt(1) without sections", Check.INDEX, () -> Driver.loaded(START).sectionAt(1));
    }

    // ---- "Sections are numbered from 0": the last that there can be ----

    private static void lastSection() {
        ContentsSetter x = Driver.loaded(START + chapter(0).repeat(23) + "section 2 lines 500 b c;");
        int[] values = {2, 500, 0, 2, 22, 0, 1};
        for (int i = 0; i < values.length; i++) {
            check.due("section(23, " + i + ")", values[i], x.section(23, i));
        }
        check.due("page(23)", 3 + 23, x.page(23));
        check.due("bookPage(23)", 3 + 23, x.bookPage(23));
        check.due("lineOnPage(23)", 3, x.lineOnPage(23));
        check.due("numberWidth(23)", 2 + 2 + 2 + 1, x.numberWidth(23));
        check.due("titleWidth(23)", 2 + 1 + 2, x.titleWidth(23));
        check.due("firstLine(23)", 23, x.firstLine(23));
        check.due("lineCount(23)", 1, x.lineCount(23));
        check.due("wordSections(1)", 1 << 23, x.wordSections(1));
        check.due("toRead()", (1 << 24) - 1, x.toRead());
        check.dueThrow("section(24, 0)", Check.INDEX, () -> x.section(24, 0));
        check.dueThrow("page(24)", Check.INDEX, () -> x.page(24));
        check.dueThrow("bookPage(24)", Check.INDEX, () -> x.bookPage(24));
        check.dueThrow("lineOnPage(24)", Check.INDEX, () -> x.lineOnPage(24));
        check.dueThrow("numberWidth(24)", Check.INDEX, () -> x.numberWidth(24));
        check.dueThrow("titleWidth(24)", Check.INDEX, () -> x.titleWidth(24));
        check.dueThrow("firstLine(24)", Check.INDEX, () -> x.firstLine(24));
        check.dueThrow("lineCount(24)", Check.INDEX, () -> x.lineCount(24));
        check.dueThrow("slack(24)", Check.INDEX, () -> x.slack(24));
        check.dueThrow("pagesIf(24, 0)", Check.INDEX, () -> x.pagesIf(24, 0));
        check.dueThrow("setLength(24, 0)", Check.INDEX, () -> x.setLength(24, 0));
        check.dueThrow("setLevel(24, 1)", Check.INDEX, () -> x.setLevel(24, 1));
        check.dueThrow("remove(24)", Check.INDEX, () -> x.remove(24));
        check.due("setLength(23, 0)", 500, x.setLength(23, 0));
        check.due("setLevel(23, 1)", 2, x.setLevel(23, 1));
        check.due("setTitle(23)", 2, Driver.setTitle(x, 23, "d"));
        check.due("remove(23)", 1, x.remove(23));
        check.due("insert(23, 2, 0)", 24, Driver.insert(x, 23, 2, 0, "d"));
    }

    public static void main(String[] args) {
        letters();
        figures();
        labels();
        placesAfterEdits();
        partsApart();
        chapters();
        others();
        partsOfTheBook();
        rightPages();
        printed();
        allNumbers();
        beforeTheFirstLoad();
        counts();
        findPage();
        sectionAt();
        lastSection();
        check.end();
    }
}
