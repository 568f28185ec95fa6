/** Sections 4 and 5 and promises 18 to 28 and 51 to 53, sentence by sentence: the edges of the table's lines. */
public final class TableEdgesTest {
    private static final Check check = new Check();

    private static String book(int width, int tableLines) {
        return "book width " + width + " lines " + tableLines + " page 20;";
    }

    private static String style(int indent, int hang, int gap, int dots, int grid) {
        return "style indent " + indent + " hang " + hang + " gap " + gap + " dots " + dots + " grid " + grid + ";";
    }

    private static String section(int level, String title) {
        return "section " + level + " lines 0 " + title + ";";
    }

    private static String tableOf(String text) {
        return Driver.table(Driver.loaded(text));
    }

    // ---- "An entry's first line starts at indent * (level - 1), its other lines hang units further." ----

    private static void starts() {
        String wide = "mmmmmmmmmmmm mmmmmmmmmmmm";
        String sections = section(1, wide) + section(2, wide) + section(3, wide) + section(4, wide);
        ContentsSetter none = Driver.loaded(book(40, 60) + style(0, 0, 1, 0, 1) + sections);
        ContentsSetter most = Driver.loaded(book(40, 60) + style(9, 9, 1, 0, 1) + sections);
        ContentsSetter without = Driver.loaded(book(40, 60) + sections);
        for (int i = 0; i < 4; i++) {
            check.due("indent 0, first line of " + i, 0, none.line(2 * i, 1));
            check.due("hang 0, other line of " + i, 0, none.line(2 * i + 1, 1));
            check.due("indent 9, first line of " + i, 9 * i, most.line(2 * i, 1));
            check.due("hang 9, other line of " + i, 9 * i + 9, most.line(2 * i + 1, 1));
            check.due("indent without a style, first line of " + i, 2 * i, without.line(2 * i, 1));
            check.due("hang without a style, other line of " + i, 2 * i + 3, without.line(2 * i + 1, 1));
        }
    }

    // ---- "if the line has none yet or if the line would end, with a space before the token, at most at the limit" ----

    private static void tokensIntoLines() {
        // The number ii takes 2 units and the gap 1: the limit is the width less 3.
        String plain = style(0, 0, 1, 0, 1);
        String twice = section(1, "mmmm mmmm");
        check.due("a line that ends at the limit", 1, Driver.loaded(book(28, 9) + plain + twice).count(2));
        check.due("a line that would end beyond it", 2, Driver.loaded(book(27, 9) + plain + twice).count(2));
        String below = section(1, "a") + section(2, "mmmm mmmm");
        check.due("the start counts: at the limit", 1,
                Driver.loaded(book(30, 9) + style(2, 0, 1, 0, 1) + below).lineCount(1));
        check.due("the start counts: beyond it", 2,
                Driver.loaded(book(29, 9) + style(2, 0, 1, 0, 1) + below).lineCount(1));
        // The limit is 16; the second line would end 9 units behind its start.
        String hanging = section(1, "mmmm aa aa");
        check.due("a hanging line that ends at the limit", "mmmm\n       aa aa  ii\n",
                tableOf(book(20, 9) + style(0, 7, 2, 0, 9) + hanging));
        check.due("a hanging line that would end beyond it", "mmmm\n        aa\n        aa  ii\n",
                tableOf(book(20, 9) + style(0, 8, 2, 0, 9) + hanging));
        check.due("a line with none yet takes any token", "mmmmmmmmmmmm\naa ............ ii\n",
                tableOf(book(20, 9) + plain + section(1, "mmmmmmmmmmmm aa")));
        check.due("a token that no line has room for", "aa\nmmmmmmmmmmmm  ii\n",
                tableOf(book(20, 9) + plain + section(1, "aa mmmmmmmmmmmm")));
        ContentsSetter most = Driver.loaded(book(20, 9) + plain + section(1, "mmmmmmmmmmmm ".repeat(8)));
        check.due("8 words, 8 lines", 8, most.lineCount(0));
        check.due("all are overfull", 8, most.overfullCount());
        ContentsSetter one = Driver.loaded(book(120, 9) + plain + section(1, "mmmm ".repeat(8)));
        check.due("8 words, 1 line", 1, one.lineCount(0));
        check.due("its tokens", 8, one.line(0, 3));
        check.due("its end", 8 * 12 + 7, one.line(0, 2));
        check.due("a label and the first word are one token", 1,
                Driver.loaded(book(20, 9) + "main;" + section(1, "a")).line(0, 3));
        check.due("they stay in one line", "1 mmmmmmmmmmmm  1\n",
                tableOf(book(20, 9) + "main;" + section(1, "mmmmmmmmmmmm")));
    }

    // ---- "x is at least the end of the line plus the gap, and x + 1 at most the width ... minus the gap" ----

    private static void mustHaveDots(String text, int first, int howMany) {
        ContentsSetter x = Driver.loaded(text);
        check.due("firstDot of " + text, first, x.firstDot(0));
        check.due("dotCount of " + text, howMany, x.dotCount(0));
        int grid = x.setting(7);
        for (int unit = 0; unit < 130; unit++) {
            boolean dot = howMany > 0 && unit >= first && (unit - first) % grid == 0
                    && (unit - first) / grid < howMany;
            check.due("dotsAt(" + unit + ") of " + text, dot, x.dotsAt(unit) == 1);
        }
    }

    private static void dots() {
        // The title ends at unit 4, the number ii takes 2 units of 20.
        String title = section(1, "aa");
        mustHaveDots(book(20, 9) + style(0, 0, 1, 0, 5) + title, 5, 3);
        mustHaveDots(book(20, 9) + style(0, 0, 2, 0, 5) + title, 10, 2);
        mustHaveDots(book(20, 9) + style(0, 0, 1, 0, 1) + title, 5, 12);
        mustHaveDots(book(20, 9) + style(0, 0, 1, 0, 8) + title, 8, 2);
        mustHaveDots(book(20, 9) + style(0, 0, 2, 0, 8) + title, 8, 1);
        mustHaveDots(book(20, 9) + style(0, 0, 1, 0, 9) + title, 9, 1);
        mustHaveDots(book(20, 9) + style(0, 0, 0, 0, 4) + title, 4, 4);
        mustHaveDots(book(20, 9) + style(0, 0, 0, 0, 1) + title, 4, 14);
        mustHaveDots(book(20, 9) + style(0, 0, 6, 0, 1) + title, 10, 2);
        mustHaveDots(book(20, 9) + style(0, 0, 6, 0, 9) + title, ContentsSetter.NONE, 0);
        mustHaveDots(book(20, 9) + style(0, 0, 6, 0, 5) + title, 10, 1);
        mustHaveDots(book(20, 9) + style(0, 0, 7, 0, 1) + title, ContentsSetter.NONE, 0);
        mustHaveDots(book(21, 9) + style(0, 0, 7, 0, 1) + title, 11, 1);
        mustHaveDots(book(20, 9) + style(0, 0, 9, 0, 1) + title, ContentsSetter.NONE, 0);
        mustHaveDots(book(120, 9) + style(0, 0, 0, 0, 1) + section(1, "i"), 1, 117);
        // Every multiple of the grid that is at least the end and less than the number's first unit.
        mustHaveDots(book(120, 9) + style(0, 0, 0, 0, 9) + section(1, "aaaaa i"), 18, 12);
    }

    private static void dotsOfLines() {
        // Numbers 1 and 2: dots up to unit 17 in the first line, up to 16 in the others.
        ContentsSetter x = Driver.loaded(book(20, 9) + style(0, 0, 1, 0, 1) + "main;" + section(1, "i")
                + "section 2 lines 14 i;" + section(1, "i"));
        int[] pages = {1, 1, 2};
        for (int i = 0; i < 3; i++) {
            check.due("page " + i, pages[i], x.page(i));
        }
        check.due("dotsAt(17)", 2, x.dotsAt(17));
        check.due("dotsAt(16)", 3, x.dotsAt(16));
        check.due("dotsAt(18)", 0, x.dotsAt(18));
        check.due("dotsAt(0)", 0, x.dotsAt(0));
        check.due("dotsAt(greatest)", 0, x.dotsAt(Integer.MAX_VALUE));
        check.dueThrow("dotsAt(-1)", Check.ARGUMENT, () -> x.dotsAt(-1));
        check.dueThrow("dotsAt(least)", Check.ARGUMENT, () -> x.dotsAt(Integer.MIN_VALUE));
        check.due("dotsAt(0) without sections", 0, new ContentsSetter().dotsAt(0));
        check.dueThrow("dotsAt(-1) without sections", Check.ARGUMENT, () -> new ContentsSetter().dotsAt(-1));
        ContentsSetter none = Driver.loaded(book(20, 9) + section(1, "mmmmmmmmmmmm"));
        check.due("a line without dots, greatest unit", 0, none.dotsAt(Integer.MAX_VALUE));
        check.due("a line without dots, unit 0", 0, none.dotsAt(0));
    }

    // ---- "If the last line has more than one token and fewer dots than the style asks for" ----

    private static void fewerDots() {
        // Behind aa aa, which ends at 9, there are the dots 12 and 15; behind the hanging aa 9, 12 and 15.
        String two = section(1, "aa aa");
        check.due("asks for none", "aa aa .. ii\n", tableOf(book(20, 9) + style(0, 3, 1, 0, 3) + two));
        check.due("as many as it asks for", "aa aa .. ii\n", tableOf(book(20, 9) + style(0, 3, 1, 2, 3) + two));
        check.due("one fewer", "aa\n   aa ... ii\n", tableOf(book(20, 9) + style(0, 3, 1, 3, 3) + two));
        check.due("the new last line has too few as well", "aa\n   aa ... ii\n",
                tableOf(book(20, 9) + style(0, 3, 1, 9, 3) + two));
        check.due("only one token goes", "aa aa\n   aa ... ii\n",
                tableOf(book(20, 9) + style(0, 3, 1, 9, 3) + section(1, "aa aa aa")));
        check.due("one token stays", "aaaaaaa . ii\n",
                tableOf(book(20, 9) + style(0, 3, 1, 9, 3) + section(1, "aaaaaaa")));
        check.due("one token stays in another line", "aaaaaa\n   aaaaaa  ii\n",
                tableOf(book(20, 9) + style(0, 3, 1, 9, 3) + section(1, "aaaaaa aaaaaa")));
        check.due("the last line is the second one", "aaaaaa\n   aaaa\n   aa ... ii\n",
                tableOf(book(20, 9) + style(0, 3, 1, 1, 3) + section(1, "aaaaaa aaaa aa")));
        check.due("asks for none, and has none", "aaaaaa\n   aaaa aa  ii\n",
                tableOf(book(20, 9) + style(0, 3, 1, 0, 3) + section(1, "aaaaaa aaaa aa")));
        ContentsSetter x = Driver.loaded(book(20, 9) + style(0, 3, 1, 3, 3) + two);
        int[][] lines = {{0, 0, 4, 1, 1}, {0, 3, 7, 1, 1}};
        for (int i = 0; i < 2; i++) {
            for (int what = 0; what < 5; what++) {
                check.due("line(" + i + ", " + what + ")", lines[i][what], x.line(i, what));
            }
        }
        check.dueThrow("the first line is the last one no more", Check.ELEMENT, () -> x.dotCount(0));
        check.due("8 tokens, the last one goes", 2, Driver.loaded(book(30, 9) + style(0, 3, 1, 9, 9)
                + section(1, "i i i i i i i i")).lineCount(0));
    }

    // ---- "A line that ends beyond the limit is overfull." ----

    private static void overfull() {
        String plain = style(0, 9, 1, 0, 1);
        for (int width = 20; width <= 21; width++) {
            // The title takes 18 units, the limit is the width less 3.
            ContentsSetter x = Driver.loaded(book(width, 9) + plain + section(1, "mmmmmm"));
            check.due("18 units, width " + width, width == 20, x.isOverfull(0));
            check.due("overfullCount, width " + width, width == 20 ? 1 : 0, x.overfullCount());
            check.due("17 units, width " + width, false,
                    Driver.loaded(book(width, 9) + plain + section(1, "mmmmma")).isOverfull(0));
            check.due("19 units, width " + width, true,
                    Driver.loaded(book(width, 9) + plain + section(1, "mmmmmmi")).isOverfull(0));
            // The hanging word takes units 9 to 18.
            ContentsSetter y = Driver.loaded(book(width, 9) + plain + section(1, "mmmmmm aaaai"));
            check.due("hanging to 18, width " + width, width == 20, y.isOverfull(1));
            check.due("two lines, width " + width, width == 20 ? 2 : 0, y.overfullCount());
        }
        ContentsSetter most = Driver.loaded("book width 20 lines 60 page 5;" + style(9, 9, 9, 9, 9)
                + "section 1 lines 500 a;".repeat(24));
        // The last number is mmcccxxv, 18 units: the limit is 20 - 18 - 9.
        check.due("a limit less than 0", -7, most.count(7));
        check.due("all lines are beyond it", 24, most.overfullCount());
        check.due("overfullCount without sections", 0, Driver.loaded(book(20, 9)).overfullCount());
    }

    // ---- "The lines of the table are numbered from 0.": the lines of its pages ----

    private static void numbersOfLines() {
        ContentsSetter x = Driver.loaded(book(60, 2) + section(1, "a").repeat(24));
        for (int i = 0; i < 24; i++) {
            check.due("firstLine(" + i + ")", i, x.firstLine(i));
            check.due("lineCount(" + i + ")", 1, x.lineCount(i));
            check.due("line(" + i + ", 0)", i, x.line(i, 0));
            check.due("line(" + i + ", 4)", i / 2 + 1, x.line(i, 4));
        }
        check.due("pages of the table", 12, x.count(3));
        check.dueThrow("line(24, 0)", Check.INDEX, () -> x.line(24, 0));
        check.dueThrow("writeLine(24)", Check.INDEX, () -> x.writeLine(24));
        ContentsSetter most = Driver.loaded("book width 20 lines 2 page 5;section 1 lines 0 a;");
        for (int i = 1; i < 24; i++) {
            Driver.insert(most, i, 1, 0, "aaaaaaaaaaaa ".repeat(8));
        }
        Driver.setTitle(most, 0, "aaaaaaaaaaaa ".repeat(8));
        check.due("the most lines", 192, most.count(2));
        check.due("the most pages", 96, most.count(3));
        check.due("first line of the last entry", 184, most.firstLine(23));
        check.due("section of the last line", 23, most.line(191, 0));
        check.due("page of the last line", 96, most.line(191, 4));
        check.due("start of the last line", 3, most.line(191, 1));
        check.due("overfull lines", 192, most.overfullCount());
        check.dueThrow("line(192, 0)", Check.INDEX, () -> most.line(192, 0));
        check.due("table pages before the front part", 97, most.page(0));
        // Each entry has 7 lines that start at 3, 8 of 12 letters and a newline, 2 spaces and a number.
        int numbers = 0;
        for (int i = 0; i < 24; i++) {
            numbers += Model.roman(97 + i).length();
        }
        int length = 24 * (7 * 3 + 8 * 13 + 2) + numbers;
        check.due("length of the table", length, most.writeTable());
        check.due("its last sign", '\n', most.outputByte(length - 1));
        check.dueThrow("behind its last sign", Check.INDEX, () -> most.outputByte(length));
    }

    // ---- "It is found by rounds ... but at most 8 rounds" ----

    private static void mustTake(String text, int rounds, int pages, int lines) {
        ContentsSetter x = Driver.loaded(text);
        check.due("rounds of " + text, rounds, x.rounds());
        check.due("pages of the table of " + text, pages, x.count(3));
        check.due("lines of the table of " + text, lines, x.count(2));
        check.due("first page behind the table of " + text, pages + 1, x.bookPage(0));
    }

    private static void rounds() {
        check.due("rounds of a new book", 0, new ContentsSetter().rounds());
        check.due("rounds without sections", 0, Driver.loaded(book(60, 2)).rounds());
        mustTake(book(60, 2) + section(1, "a"), 1, 1, 1);
        mustTake(book(60, 2) + section(1, "a").repeat(2), 1, 1, 2);
        mustTake(book(60, 2) + section(1, "a").repeat(3), 2, 2, 3);
        mustTake(book(60, 2) + section(1, "a").repeat(24), 2, 12, 24);
        mustTake(book(60, 23) + section(1, "a").repeat(24), 2, 2, 24);
        mustTake(book(60, 24) + section(1, "a").repeat(24), 1, 1, 24);
        ContentsSetter x = Driver.loaded(book(60, 60) + section(1, "a").repeat(24));
        x.setWidth(20);
        for (int i = 0; i < 24; i++) {
            Driver.setTitle(x, i, i < 18 ? "aaaaaaaaa aaaaaaaaa" : "aaaaaaaaa aaaaaaaaa aaaaaaaaa aaaaaaaaa");
        }
        check.due("60 lines", 60, x.count(2));
        check.due("60 lines are a page of 60", 1, x.count(3));
        check.due("60 lines in one round", 1, x.rounds());
        Driver.setTitle(x, 0, "aaaaaaaaa aaaaaaaaa aaaaaaaaa");
        check.due("61 lines are two pages", 2, x.count(3));
        check.due("61 lines in two rounds", 2, x.rounds());
    }

    private static void roundsThatDoNotSettle() {
        // With one page the number is viii and the second title breaks, with two it is ix.
        mustTake("book width 20 lines 2 page 5;" + style(2, 3, 1, 0, 3)
                + "section 1 lines 27 a;section 1 lines 0 aaa aaaa;", 8, 2, 2);
        // The tables have 4, 5 and 6 pages in turn, in the 8th round 5: the greatest was neither first nor last.
        mustTake("book width 21 lines 2 page 5;" + style(0, 3, 1, 1, 1) + "section 1 lines 21 aaaa ai;"
                + "section 2 lines 48 aa aaai;section 2 lines 2 aai aaaai;section 1 lines 9 aai;"
                + "section 1 lines 8 aai a;section 1 lines 52 aaa aaa aaaai;", 8, 6, 8);
        // The rounds find 14, 13, 17, 16, 18, 12, 15 and in the 8th 15 again: this one stands, not the greatest.
        mustTake("book width 23 lines 2 page 5;" + style(0, 3, 1, 2, 2) + "section 1 lines 34 aaa ai a;"
                + "section 2 lines 26 aai aai;section 1 lines 31 aaai ai aaa;section 1 lines 52 aai aaai ai;"
                + "section 1 lines 46 aaaai aa;section 1 lines 16 ai aaaa ai;section 1 lines 9 aaai a;"
                + "section 1 lines 7 aai aaa aaa;section 1 lines 53 aaa aai a;section 2 lines 44 aaaa;"
                + "section 1 lines 11 aai aai ai;section 2 lines 25 ai aaaa;section 1 lines 12 aaai a;"
                + "section 1 lines 2 ai aaaa aa;section 2 lines 46 aaai ai;", 8, 15, 29);
        // 14, 17, 15, 16, 19 and 19 again.
        mustTake("book width 21 lines 2 page 5;" + style(0, 3, 1, 1, 2) + "section 1 lines 28 aa;"
                + "section 1 lines 24 aai ai;section 1 lines 25 aai a aa;section 1 lines 17 ai ai;"
                + "section 2 lines 34 a aai ai;section 1 lines 0 aaaa a;section 2 lines 48 aaa;"
                + "section 2 lines 17 aaaai ai ai;section 2 lines 19 aa aa aai;section 2 lines 54 aaaai a;"
                + "section 2 lines 9 aa aa;section 2 lines 2 aaaa ai aaaa;section 2 lines 1 aa ai;"
                + "section 1 lines 27 aai aa aaaai;section 2 lines 13 aaaai aaaa;section 2 lines 14 ai aai aai;"
                + "section 2 lines 16 aaa a;section 2 lines 30 ai ai aa;", 6, 19, 37);
    }

    // ---- Section 5: figures that collide ----

    /** Chapters on page 1 and on these pages, which go upwards. */
    private static ContentsSetter chaptersOn(int tableLines, int... pages) {
        StringBuilder text = new StringBuilder("book width 60 lines " + tableLines + " page 5;main;");
        int page = 1;
        for (int next : pages) {
            // A chapter has at most 500 lines, so there are others before one that is far behind.
            for (; next - page > 100; page += 100) {
                text.append("section 1 lines 497 a;");
            }
            text.append("section 1 lines ").append(5 * (next - page) - 3).append(" a;");
            page = next;
        }
        return Driver.loaded(text + "section 1 lines 0 a;");
    }

    private static void mustMeet(int upper, int lower, boolean meet) {
        ContentsSetter x = chaptersOn(60, upper, lower);
        int line = x.count(2) - 2;
        check.due("upper number " + upper, upper, x.page(line));
        check.due("lower number " + lower, lower, x.page(line + 1));
        check.due(upper + " over " + lower, meet, x.collides(line));
    }

    private static boolean isBelow(int figure) {
        return "34579".indexOf('0' + figure) >= 0;
    }

    private static boolean isAbove(int figure) {
        return figure == 6 || figure == 8;
    }

    private static void figures() {
        for (int u = 0; u <= 9; u++) {
            for (int v = 0; v <= 9; v++) {
                mustMeet(10 + u, 20 + v, isBelow(u) && isAbove(v));
                if (u > 0 && u < v) {
                    mustMeet(10 * u, 10 * v, isBelow(u) && isAbove(v));
                    // The figure 1 takes one unit: the tens stand half over one another.
                    mustMeet(10 * u + 1, 10 * v, isBelow(u) && isAbove(v));
                    mustMeet(10 * u, 10 * v + 1, isBelow(u) && isAbove(v));
                }
            }
        }
        mustMeet(3, 8, true);
        mustMeet(13, 81, true);
        mustMeet(13, 80, false);
        mustMeet(31, 78, true);
        mustMeet(30, 78, false);
        mustMeet(3, 18, true);
        mustMeet(3, 61, true);
        mustMeet(3, 62, false);
        mustMeet(311, 318, false);
        mustMeet(311, 381, true);
        mustMeet(300, 380, false);
        mustMeet(330, 386, true);
        mustMeet(500, 600, true);
        mustMeet(511, 600, false);
        mustMeet(511, 601, true);
        mustMeet(511, 606, false);
        mustMeet(511, 611, true);
        mustMeet(1400, 1500, false);
        mustMeet(1500, 1600, true);
    }

    /** "Two neighbouring lines of the table on one of its pages" */
    private static void pagesOfNeighbours() {
        boolean[][] meet = {
            {false, false, true, false, false},
            {false, true, false, true, false},
            {false, true, true, false, false},
            {false, true, true, true, false},
            {false, true, true, true, false},
        };
        for (int tableLines = 2; tableLines <= 6; tableLines++) {
            // Each of 3, 38, 83 and 86 stands over a figure of the next one.
            ContentsSetter x = chaptersOn(tableLines, 3, 38, 83, 86);
            int due = 0;
            for (int i = 0; i < 5; i++) {
                boolean here = meet[tableLines - 2][i];
                due += here ? 1 : 0;
                check.due("collides(" + i + ") on pages of " + tableLines, here, x.collides(i));
            }
            check.due("collisions on pages of " + tableLines, due, x.collisions());
            check.dueThrow("collides(5)", Check.INDEX, () -> x.collides(5));
        }
        check.due("collisions without sections", 0, new ContentsSetter().collisions());
    }

    /** "which are both last lines of entries of the main part" */
    private static void linesOfNeighbours() {
        String wide = "mmmmmmmmmmmm mmmmmmmmmmmm";
        ContentsSetter x = chaptersOn(60, 3, 8);
        check.due("two last lines", true, x.collides(1));
        Driver.setTitle(x, 2, wide);
        check.due("the lower line is not the last one", false, x.collides(1));
        check.due("both lines are of one entry", false, x.collides(2));
        check.due("no two last lines", 0, x.collisions());
        Driver.setTitle(x, 2, "a");
        Driver.setTitle(x, 1, wide);
        check.due("the upper line is not the last one", false, x.collides(1));
        check.due("the last line of the upper entry", true, x.collides(2));
        check.due("one pair", 1, x.collisions());
        ContentsSetter gone = chaptersOn(60, 3, 8);
        gone.remove(2);
        check.due("the lower line is gone", false, gone.collides(1));
        check.due("no pair is left", 0, gone.collisions());
        gone.undo();
        check.due("the lower line is back", true, gone.collides(1));
        ContentsSetter front = Driver.loaded("book width 60 lines 60 page 5;" + "section 1 lines 7 a;".repeat(20)
                + "main;section 1 lines 0 a;");
        check.due("roman numbers have no figures", 0, front.collisions());
    }

    // ---- Promises 51 to 53: writeLine, writeTable and outputByte ----

    private static void written() {
        String text = book(30, 9) + style(4, 5, 1, 1, 4) + section(1, "aa") + "main;" + section(1, "b")
                + section(2, "mmmmmm mmmmmm") + section(3, "mmmmmmmm");
        // Limit 27; behind 2 the dots 4, 8, ..; the third entry breaks; the last one is too wide for dots.
        String[] lines = {"aa ..... ii\n", "1 b ..... 1\n", "    1.1 mmmmmm\n", "         mmmmmm  1\n",
            "        1.1.1 mmmmmmmm  1\n"};
        ContentsSetter x = Driver.loaded(text);
        check.dueThrow("outputByte(0) of no output", Check.INDEX, () -> x.outputByte(0));
        for (int i = 0; i < lines.length; i++) {
            check.due("writeLine(" + i + ")", lines[i].length(), x.writeLine(i));
            check.due("its first byte", lines[i].charAt(0), x.outputByte(0));
            check.due("its last byte", '\n', x.outputByte(lines[i].length() - 1));
            int length = lines[i].length();
            check.dueThrow("behind its last byte", Check.INDEX, () -> x.outputByte(length));
            check.due("line " + i, lines[i], Driver.output(x, length));
        }
        check.due("writeTable()", String.join("", lines), Driver.table(x));
        check.dueThrow("outputByte(-1)", Check.INDEX, () -> x.outputByte(-1));
        check.dueThrow("outputByte(least)", Check.INDEX, () -> x.outputByte(Integer.MIN_VALUE));
        check.dueThrow("outputByte(greatest)", Check.INDEX, () -> x.outputByte(Integer.MAX_VALUE));
        x.writeLine(0);
        check.due("replacing its content", lines[0], Seen.output(x));
        check.dueThrow("writeLine(5)", Check.INDEX, () -> x.writeLine(5));
        check.dueThrow("writeLine(-1)", Check.INDEX, () -> x.writeLine(-1));
        check.due("a call that throws writes nothing", lines[0], Seen.output(x));
        Driver.load(x, book(30, 9));
        check.due("a table without lines", 0, x.writeTable());
        check.dueThrow("its first byte", Check.INDEX, () -> x.outputByte(0));
        check.dueThrow("its first line", Check.INDEX, () -> x.writeLine(0));
    }

    /** The longest line that there can be comes whole. */
    private static void longestLines() {
        ContentsSetter x = Driver.loaded("book width 120 lines 60 page 5;" + style(9, 9, 0, 0, 1)
                + section(1, "a") + section(2, "a") + section(3, "a") + section(4, "iiiiiiiiiiii ".repeat(6)));
        String line = " ".repeat(27) + ("iiiiiiiiiiii ").repeat(6) + ".".repeat(120 - 27 - 77 - 3) + " iii\n";
        check.due("72 letters", line, Driver.line(x, 3));
        ContentsSetter y = Driver.loaded("book width 120 lines 60 page 5;" + style(9, 9, 0, 0, 1) + section(1, "i"));
        check.due("117 dots", "i " + ".".repeat(117) + " ii\n", Driver.line(y, 0));
    }

    /** About the longest table that there can be comes whole. */
    private static void longestTable() {
        ContentsSetter x = Driver.loaded("book width 108 lines 60 page 99;" + style(9, 9, 0, 0, 1) + "main;"
                + section(1, "a") + section(2, "a") + section(3, "a") + section(4, "a").repeat(21));
        for (int i = 3; i < 24; i++) {
            Driver.setTitle(x, i, "mmmmmmmmmmmm ".repeat(8));
        }
        // All numbers are 1, so the limit is 107; the first line of 1.1.1.1 would end at 108 with two words.
        check.due("lines of the longest table", 3 + 21 * 8, x.count(2));
        // The dots go on to 106: from 4 behind "1 a", from 15 behind "1.1 a", from 26 behind "1.1.1 a",
        // from 72 behind the last words. 12 of the 21 long entries have two figures at their label's end.
        int top = (3 + 103) + (9 + 5 + 92) + (18 + 7 + 81) + 3 * 4;
        int entry = (27 + 7 + 1 + 13) + 6 * (36 + 13) + (36 + 12 + 35 + 4);
        int length = top + 21 * entry + 12;
        check.due("length of the longest table", length, x.writeTable());
        String last = " ".repeat(36) + "mmmmmmmmmmmm " + ".".repeat(35) + " 1\n";
        for (int i = 0; i < last.length(); i++) {
            check.due("its last line at " + i, last.charAt(i), x.outputByte(length - last.length() + i));
        }
        check.dueThrow("behind the longest table", Check.INDEX, () -> x.outputByte(length));
    }

    public static void main(String[] args) {
        starts();
        tokensIntoLines();
        dots();
        dotsOfLines();
        fewerDots();
        overfull();
        numbersOfLines();
        rounds();
        roundsThatDoNotSettle();
        figures();
        pagesOfNeighbours();
        linesOfNeighbours();
        written();
        longestLines();
        longestTable();
        check.end();
    }
}
