/** Section 1 and promises 1 to 6, sentence by sentence: the edges of the input buffer and of its text. */
public final class InputEdgesTest {
    private static final Check check = new Check();
    private static final String START = "book width 40 lines 10 page 20;";
    private static final int BLANKS = 0x20202020;

    private static int appendBlanks(ContentsSetter x) {
        return x.append(BLANKS, BLANKS, BLANKS, BLANKS, BLANKS);
    }

    private static ContentsSetter full() {
        ContentsSetter x = new ContentsSetter();
        for (int i = 0; i < 55; i++) {
            appendBlanks(x);
        }
        return x;
    }

    private static void mustStand(String text, int sections) {
        ContentsSetter x = new ContentsSetter();
        Driver.load(x, "?");
        check.due("load of " + text, sections, Driver.load(x, text));
        check.due("errorCode of " + text, 0, x.errorCode());
        check.due("errorPosition of " + text, ContentsSetter.NONE, x.errorPosition());
    }

    /** The sign ^ stands before the token that has the error. */
    private static void mustFail(int code, String marked) {
        int position = marked.indexOf('^');
        String text = marked.substring(0, position) + marked.substring(position + 1);
        ContentsSetter x = new ContentsSetter();
        check.due("load of " + marked, ContentsSetter.PARSE_ERROR, Driver.load(x, text));
        check.due("errorCode of " + marked, code, x.errorCode());
        check.due("errorPosition of " + marked, position, x.errorPosition());
    }

    /** A number between the two texts must be in this range; one out of it is the token with the error. */
    private static void mustBeIn(String before, int least, int most, String behind, int sections) {
        mustStand(before + least + behind, sections);
        mustStand(before + most + behind, sections);
        mustStand(before + "000000000000000000000" + most + behind, sections);
        if (least > 0) {
            mustFail(2, before + "^" + (least - 1) + behind);
        }
        mustFail(2, before + "^" + (most + 1) + behind);
        mustFail(2, before + "^" + Integer.MAX_VALUE + behind);
        // These are numbers of the range in 32 and in 64 bits.
        mustFail(2, before + "^" + ((1L << 32) + most) + behind);
        mustFail(2, before + "^" + java.math.BigInteger.ONE.shiftLeft(64).add(java.math.BigInteger.valueOf(most))
                + behind);
        mustFail(2, before + "^" + "9".repeat(400) + behind);
        mustFail(1, before + "^" + "-" + most + behind);
        mustFail(1, before + " ".repeat(behind.length() - behind.trim().length()) + "^" + behind.trim());
        mustFail(1, before + "^" + "a" + behind);
    }

    // ---- "The input buffer holds at most 1100 bytes." ----

    private static void mostBytes() {
        ContentsSetter x = new ContentsSetter();
        for (int i = 1; i <= 55; i++) {
            check.due("the new length after append " + i, 20 * i, appendBlanks(x));
        }
        check.dueThrow("append to 1100 bytes", Check.STATE, () -> appendBlanks(x));
        check.dueThrow("append to 1100 bytes again", Check.STATE, () -> appendBlanks(x));
        check.dueThrow("truncate(1101)", Check.ARGUMENT, () -> x.truncate(1101));
        x.truncate(1100);
        x.truncate(1081);
        check.dueThrow("append to 1081 bytes", Check.STATE, () -> appendBlanks(x));
        check.dueThrow("nothing was appended", Check.ARGUMENT, () -> x.truncate(1082));
        x.truncate(1080);
        check.due("append to 1080 bytes", 1100, appendBlanks(x));
        x.truncate(0);
        check.due("append to no bytes", 20, appendBlanks(x));
    }

    private static void refusedAppendKeepsTheBytes() {
        String text = START + "section 1 lines 0 a";
        ContentsSetter x = new ContentsSetter();
        Driver.feed(x, text + " ".repeat(1099 - text.length()) + ";");
        check.dueThrow("append to a text of 1100 bytes", Check.STATE, () -> x.append(-1, -1, -1, -1, -1));
        check.due("the text of 1100 bytes", 1, x.load());
        ContentsSetter y = new ContentsSetter();
        Driver.feed(y, text + " ".repeat(1099 - text.length()) + "?");
        check.due("a text of 1100 bytes with an error in the last", ContentsSetter.PARSE_ERROR, y.load());
        check.due("the last position", 1099, y.errorPosition());
        ContentsSetter z = full();
        check.due("1100 blanks", ContentsSetter.PARSE_ERROR, z.load());
        check.due("the end of the text", 1100, z.errorPosition());
        check.due("the buffer is empty", 20, appendBlanks(z));
    }

    /** "the four bytes of each parameter, most significant byte first" */
    private static void orderOfBytes() {
        String letters = "abcdefghijklmnopqrst";
        for (int i = 0; i < 20; i++) {
            ContentsSetter x = Driver.loaded(START + "section 1 lines 0 " + letters.charAt(i) + ";");
            x.append(i == 0 ? 0x61626364 : 0x20626364, 0x65666768, 0x696a6b6c, 0x6d6e6f70, 0x71727374);
            x.truncate(i + 1);
            check.due("a byte and those before it", i == 0 ? 0 : ContentsSetter.NONE, x.findWord());
            int[] fours = {BLANKS, BLANKS, BLANKS, BLANKS, BLANKS};
            fours[i / 4] += (letters.charAt(i) - ' ') << 24 - 8 * (i % 4);
            x.append(fours[0], fours[1], fours[2], fours[3], fours[4]);
            check.due("byte " + i + " alone is the title", 1, x.setTitle(0));
            check.due("byte " + i, 0, Driver.find(x, letters.substring(i, i + 1)));
            fours[i / 4] |= 255 << 24 - 8 * (i % 4);
            x.append(fours[0], fours[1], fours[2], fours[3], fours[4]);
            x.load();
            check.due("byte " + i + " of 255 is a symbol", i, x.errorPosition());
        }
        ContentsSetter x = new ContentsSetter();
        x.append(Integer.MIN_VALUE, -1, Integer.MAX_VALUE, 0, 0);
        check.due("negative parameters", ContentsSetter.PARSE_ERROR, x.load());
        check.due("their first byte", 0, x.errorPosition());
    }

    /** "the new length, 0 to the current length" */
    private static void lengthsOfACut() {
        ContentsSetter x = new ContentsSetter();
        x.truncate(0);
        check.dueThrow("truncate(1) of no bytes", Check.ARGUMENT, () -> x.truncate(1));
        Driver.feed(x, "abcdefg");
        check.dueThrow("truncate(-1)", Check.ARGUMENT, () -> x.truncate(-1));
        check.dueThrow("truncate(least)", Check.ARGUMENT, () -> x.truncate(Integer.MIN_VALUE));
        check.dueThrow("truncate(8) of 7 bytes", Check.ARGUMENT, () -> x.truncate(8));
        check.dueThrow("truncate(greatest)", Check.ARGUMENT, () -> x.truncate(Integer.MAX_VALUE));
        x.truncate(7);
        check.due("all seven are there", 7, Seen.inputLength(x));
        x.truncate(6);
        check.dueThrow("a cut does not come back", Check.ARGUMENT, () -> x.truncate(7));
        ContentsSetter y = Driver.loaded(START + "section 1 lines 0 abc ab;");
        Driver.feed(y, "abc");
        y.truncate(3);
        check.due("truncate to the length", 1, y.findWord());
        Driver.feed(y, "abc");
        y.truncate(2);
        check.due("the first length bytes stay", 0, y.findWord());
        Driver.feed(y, "abc");
        y.truncate(2);
        Driver.feed(y, "c");
        check.due("the next byte comes behind the cut", 1, y.findWord());
    }

    // ---- "load() parses it as a text of one or more statements; each statement ends with ';'." ----

    private static void statements() {
        mustFail(1, "^");
        mustFail(1, " ^");
        mustFail(1, "\n\n \n^");
        mustFail(1, "^;");
        mustStand(START, 0);
        mustStand(" \n" + START + "\n ", 0);
        mustFail(1, "book width 40 lines 10 page 20^");
        mustFail(1, "book width 40 lines 10 page 20 \n ^");
        mustFail(1, "book width 40 lines 10 page 20^,");
        mustFail(1, "book width 40 lines 10 page 20 ^20;");
        mustFail(1, START + "^;");
        mustFail(1, START + "^7;");
        mustFail(1, START + "right^");
        mustFail(1, START + "right ^right;");
        mustFail(1, START + "main^");
        mustFail(1, START + "main ^1;");
        mustFail(1, START + "style indent 1 hang 1 gap 1 dots 1 grid 1^");
        mustFail(1, START + "style indent 1 hang 1 gap 1 dots 1 grid 1 ^1;");
        mustFail(1, START + "section 1 lines 0 a^");
        mustFail(1, START + "section 1 lines 0 a \n^");
        mustFail(1, START + "section 1 lines 0^");
        mustFail(1, START + "section 1 lines^");
        mustFail(1, START + "section 1^");
        mustFail(1, START + "section^");
        mustFail(1, START + "section 1 lines 0 a b ^1;");
        mustFail(1, "^title;");
        mustFail(1, START + "^title;");
        mustFail(1, "^boo width 40 lines 10 page 20;");
        mustFail(1, "^books width 40 lines 10 page 20;");
        mustFail(1, "book ^widt 40 lines 10 page 20;");
        mustFail(1, "book ^widths 40 lines 10 page 20;");
        mustFail(1, "book width 40 ^page 20;");
        mustFail(1, "book width 40 lines 10 ^lines 20;");
        mustFail(1, START + "style ^hang 1;");
        mustFail(1, START + "style indent 1 ^gap 1;");
        mustFail(1, START + "style indent 1 hang 1 ^dots 1;");
        mustFail(1, START + "style indent 1 hang 1 gap 1 ^grid 1;");
        mustFail(1, START + "style indent 1 hang 1 gap 1 dots 1^;");
        mustFail(1, START + "section 1 ^line 0 a;");
    }

    /** Each word of the statements, with another first letter, another last one, one less and one more. */
    private static void wordsOfStatements() {
        String[] texts = {"^book width 40 lines 10 page 20;", "book ^width 40 lines 10 page 20;",
            "book width 40 ^lines 10 page 20;", "book width 40 lines 10 ^page 20;",
            START + "^style indent 1 hang 1 gap 1 dots 1 grid 1;", START + "style ^indent 1 hang 1 gap 1 dots 1 grid 1;",
            START + "style indent 1 ^hang 1 gap 1 dots 1 grid 1;", START + "style indent 1 hang 1 ^gap 1 dots 1 grid 1;",
            START + "style indent 1 hang 1 gap 1 ^dots 1 grid 1;", START + "style indent 1 hang 1 gap 1 dots 1 ^grid 1;",
            START + "^right;", START + "^main;", START + "^section 1 lines 0 a;", START + "section 1 ^lines 0 a;"};
        for (String text : texts) {
            int from = text.indexOf('^') + 1;
            int to = from;
            while (text.charAt(to) >= 'a' && text.charAt(to) <= 'z') {
                to++;
            }
            String word = text.substring(from, to);
            String before = text.substring(0, from);
            String behind = text.substring(to);
            mustStand(text.replace("^", ""), text.contains("section") ? 1 : 0);
            mustFail(1, before + "z" + word.substring(1) + behind);
            mustFail(1, before + word.substring(0, word.length() - 1) + "z" + behind);
            mustFail(1, before + word.substring(1) + behind);
            mustFail(1, before + word.substring(0, word.length() - 1) + behind);
            mustFail(1, before + word + "s" + behind);
            mustFail(1, before + "1" + behind);
            mustFail(1, before + ";" + behind);
            mustFail(1, before + word.toUpperCase() + behind);
            mustFail(1, before.trim() + (behind.equals(";") ? ";" : behind.substring(1)));
        }
    }

    // ---- "a word is a maximal run of lowercase letters a-z; a number is a maximal run of decimal digits" ----

    private static void tokens() {
        mustStand("book width40lines10page20;section1lines0az;", 1);
        mustStand("book\nwidth\n40\nlines\n10\npage\n20\n;\nsection\n1\nlines\n0\na\n;\n", 1);
        mustFail(1, "^bookwidth 40 lines 10 page 20;");
        mustFail(1, "book width 40^`lines 10 page 20;");
        mustFail(1, "book width 40^{lines 10 page 20;");
        mustFail(1, "book width 40^/ lines 10 page 20;");
        mustFail(1, "book width 40^: lines 10 page 20;");
        mustFail(2, "book width ^4 0 lines 10 page 20;");
        mustFail(1, "book width 40 ^0 lines 10 page 20;");
        mustFail(1, "^Book width 40 lines 10 page 20;");
        mustFail(1, "^b ook width 40 lines 10 page 20;");
        for (int sign = 0; sign < 256; sign++) {
            char c = (char) sign;
            boolean letter = sign >= 'a' && sign <= 'z';
            if (letter || sign == ' ' || sign == '\n') {
                mustStand(START + "section 1 lines 0 a" + c + "b;", 1);
            } else if (c != '^' && c != ';') {
                mustFail(1, START + "section 1 lines 0 a^" + c + ";");
                mustFail(1, START + "section 1 lines 0 a ^" + c + "b;");
            }
        }
        mustStand(START + "section 1 lines 0 a z;", 1);
        check.due("a word is one token", 1, Driver.loaded(START + "section 1 lines 0 az;").section(0, 3));
        check.due("a space separates", 2, Driver.loaded(START + "section 1 lines 0 a z;").section(0, 3));
        check.due("a newline separates", 2, Driver.loaded(START + "section 1 lines 0 a\nz;").section(0, 3));
    }

    // ---- "TITLE is 1 to 8 words of 1 to 12 letters each, which may be any words." ----

    private static void titles() {
        String section = START + "section 1 lines 0 ";
        mustFail(1, section + "^;");
        mustStand(section + "a;", 1);
        mustStand(section + "a b c d e f g h;", 1);
        mustFail(4, section + "a b c d e f g h ^i;");
        mustFail(4, section + "a b c d e f g h ^i j k;");
        mustStand(section + "abcdefghijkl;", 1);
        mustFail(1, section + "^abcdefghijklm;");
        mustFail(1, section + "^" + "a".repeat(500) + ";");
        mustFail(1, section + "a ^abcdefghijklm;");
        mustStand(section + "abcdefghijkl ".repeat(8) + ";", 1);
        mustFail(1, section + "a b c d e f g ^abcdefghijklm;");
        // "if that token has several errors, the smallest code counts"
        mustFail(1, section + "a b c d e f g h ^abcdefghijklm;");
        mustFail(4, section + "a b c d e f g h ^abcdefghijkl;");
        mustFail(1, section + "a b c d e f g h ^9;");
        mustFail(1, section + "a b c d e f g h^");
        mustStand(section + "book width lines page style right main section;", 1);
        mustStand(section + "section;section 1 lines 0 lines;main;section 1 lines 0 main;right;", 3);
    }

    // ---- the ranges of the statements ----

    private static void ranges() {
        mustBeIn("book width ", 20, 120, " lines 10 page 20;", 0);
        mustBeIn("book width 40 lines ", 2, 60, " page 20;", 0);
        mustBeIn("book width 40 lines 10 page ", 5, 99, ";", 0);
        mustBeIn(START + "style indent ", 0, 9, " hang 3 gap 1 dots 2 grid 3;", 0);
        mustBeIn(START + "style indent 2 hang ", 0, 9, " gap 1 dots 2 grid 3;", 0);
        mustBeIn(START + "style indent 2 hang 3 gap ", 0, 9, " dots 2 grid 3;", 0);
        mustBeIn(START + "style indent 2 hang 3 gap 1 dots ", 0, 9, " grid 3;", 0);
        mustBeIn(START + "style indent 2 hang 3 gap 1 dots 2 grid ", 1, 9, ";", 0);
        mustBeIn(START + "section 1 lines ", 0, 500, " a;", 1);
        mustBeIn(START + "section ", 1, 1, " lines 0 a;", 1);
        // "the parser stops at the first token that has an error"
        mustFail(2, "book width ^0 lines 0 page 0;");
        mustFail(2, "book width 20 lines ^0 page 0");
        mustFail(2, START + "section ^0 lines 501;");
        mustFail(2, START + "section 1 lines ^501;");
        mustFail(1, START + "section 1 lines 0^; section 0");
    }

    /** "the width ..., the lines of a page of the table, ... the lines of a page of text" and the style's words */
    private static void whatTheNumbersAre() {
        int[] least = {20, 2, 5, 0, 0, 0, 0, 1};
        int[] most = {120, 60, 99, 9, 9, 9, 9, 9};
        int[] without = {40, 10, 20, 2, 3, 1, 2, 3};
        ContentsSetter x = Driver.loaded("book width 20 lines 2 page 5;style indent 0 hang 0 gap 0 dots 0 grid 1;");
        ContentsSetter y = Driver.loaded("book width 120 lines 60 page 99;style indent 9 hang 9 gap 9 dots 9 grid 9;");
        ContentsSetter z = Driver.loaded(START);
        for (int i = 0; i < 8; i++) {
            check.due("least setting " + i, least[i], x.setting(i));
            check.due("greatest setting " + i, most[i], y.setting(i));
            check.due("setting without a style " + i, without[i], z.setting(i));
        }
        for (int i = 0; i < 5; i++) {
            int[] n = {1, 2, 3, 4, 5};
            n[i] = 8;
            ContentsSetter s = Driver.loaded(START + "style indent " + n[0] + " hang " + n[1] + " gap " + n[2]
                    + " dots " + n[3] + " grid " + n[4] + ";");
            for (int j = 0; j < 5; j++) {
                check.due("setting " + (3 + j) + " of a style", n[j], s.setting(3 + j));
            }
        }
    }

    // ---- "Must be the first statement, and no other statement may be one", "At most once" ----

    private static void howOften() {
        String style = "style indent 1 hang 1 gap 1 dots 1 grid 1;";
        mustFail(1, "^" + style + START);
        mustFail(1, "^right;" + START);
        mustFail(1, "^main;" + START);
        mustFail(1, "^section 1 lines 0 a;" + START);
        mustFail(1, START + "^" + START);
        mustFail(1, START + "section 1 lines 0 a;^" + START);
        mustStand(START + style + "right;main;", 0);
        mustStand(START + "main;right;" + style, 0);
        mustFail(3, START + style + "^" + style);
        mustFail(3, START + "right;^right;");
        mustFail(3, START + "main;^main;");
        mustFail(3, START + style + "right;main;^style");
        mustFail(3, START + style + "right;main;^right");
        mustFail(3, START + style + "right;main;^main");
        mustFail(3, START + "main;section 1 lines 0 a;^main;section 1 lines 0 a;");
        mustFail(2, START + "style indent ^10 hang 1;style");
    }

    /** "the sections behind it are in the main part, those before it in the front part" */
    private static void parts() {
        String a = "section 1 lines 0 a;";
        check.due("without main all are in the front part", 2, Driver.loaded(START + a + a).count(1));
        check.due("main behind all", 2, Driver.loaded(START + a + a + "main;").count(1));
        check.due("main before all", 0, Driver.loaded(START + "main;" + a + a).count(1));
        ContentsSetter x = Driver.loaded(START + a + "main;" + a);
        check.due("main between", 1, x.count(1));
        check.due("the one before it", 0, x.section(0, 2));
        check.due("the one behind it", 1, x.section(1, 2));
        check.due("main is not kept", 1, Driver.load(x, START + a));
        check.due("a new text without main", 1, x.count(1));
        Driver.load(x, START + "right;");
        check.due("right", true, x.isRight());
        Driver.load(x, START);
        check.due("a new text without right", false, x.isRight());
        String once = START + "style indent 1 hang 1 gap 1 dots 1 grid 1;right;main;" + a;
        check.due("a text with each once", 1, Driver.load(x, once));
        check.due("the next text may have each again", 1, Driver.load(x, once));
        check.due("a text with an error behind each", ContentsSetter.PARSE_ERROR, Driver.load(x, once + "?"));
        check.due("the next text may have each again then", 1, Driver.load(x, once));
        check.due("a text of 24", 24, Driver.load(x, START + a.repeat(24)));
        check.due("the next text may have 24 again", 24, Driver.load(x, START + a.repeat(24)));
    }

    // ---- "a section: its level, 1 to 4, not more than 1 greater than that of the section before it" ----

    private static String sectionsOf(int... levels) {
        StringBuilder text = new StringBuilder();
        for (int level : levels) {
            text.append(level == 0 ? "main;" : "section " + level + " lines 0 a;");
        }
        return text.toString();
    }

    private static void levels() {
        String behind = " lines 0 a;";
        mustBeIn(START + sectionsOf(1) + "section ", 1, 2, behind, 2);
        mustBeIn(START + sectionsOf(1, 2) + "section ", 1, 3, behind, 3);
        mustBeIn(START + sectionsOf(1, 2, 3) + "section ", 1, 4, behind, 4);
        mustBeIn(START + sectionsOf(1, 2, 3, 4) + "section ", 1, 4, behind, 5);
        mustBeIn(START + sectionsOf(1, 2, 3, 1) + "section ", 1, 2, behind, 5);
        // "1 for the first one of a part"
        mustBeIn(START + "main;section ", 1, 1, behind, 1);
        mustBeIn(START + sectionsOf(1, 2, 3, 4) + "main;section ", 1, 1, behind, 5);
        mustBeIn(START + sectionsOf(1, 0, 1) + "section ", 1, 2, behind, 3);
    }

    /** "At most 24" */
    private static void howMany() {
        String a = "section 1 lines 0 a;";
        mustStand(START, 0);
        mustStand(START + a.repeat(23), 23);
        mustStand(START + a.repeat(24), 24);
        mustStand(START + a.repeat(12) + "main;" + a.repeat(12), 24);
        mustStand(START + a.repeat(24) + "main;right;", 24);
        mustFail(4, START + a.repeat(24) + "^" + a);
        mustFail(4, START + a.repeat(12) + "main;" + a.repeat(12) + "^" + a);
        mustFail(4, START + a.repeat(24) + "^section");
        mustFail(4, START + a.repeat(24) + "^section 9 lines 501;");
        mustFail(1, START + a.repeat(24) + "^sections");
        mustFail(1, START + a.repeat(24) + "^;");
        mustFail(3, START + "main;" + a.repeat(24) + "^main;" + a);
        ContentsSetter x = Driver.loaded(START + a + "section 1 lines 7 b;" + a);
        check.due("numbered from 0", 7, x.section(1, 1));
    }

    // ---- Promise 4: "Parses the input buffer and empties it." ----

    private static void loadOfAnError() {
        for (String wrong : new String[] {"", "x", START + "right;section 1 lines 9 b;section 3", START + "main;main;",
            "book width 50 lines 9 page 30;style indent 0 hang 0 gap 0 dots 0 grid 1;section 1 lines 2 zz;!"}) {
            ContentsSetter x = Driver.loaded(START + "section 1 lines 5 a;main;section 1 lines 6 b;");
            x.proof();
            x.setLength(0, 40);
            x.writeLine(0);
            String before = Seen.book(x);
            String output = Seen.output(x);
            check.due("load of <" + wrong + ">", ContentsSetter.PARSE_ERROR, Driver.load(x, wrong));
            check.due("the book after <" + wrong + ">", before, Seen.book(x));
            check.due("the output after <" + wrong + ">", output, Seen.output(x));
            check.due("the input after <" + wrong + ">", 0, Seen.inputLength(x));
            check.due("undoCount after <" + wrong + ">", 3, x.undoCount());
            x.undo();
            check.due("undo after <" + wrong + ">", 5, x.section(0, 1));
            check.due("the proof after <" + wrong + ">", 0, x.toRead());
        }
    }

    private static void loadOfABook() {
        ContentsSetter x = Driver.loaded(START + "right;section 1 lines 5 a;main;section 1 lines 6 b;");
        x.proof();
        check.due("the number of sections", 1, Driver.load(x, START + "section 1 lines 5 a;"));
        check.due("the input is empty", 0, Seen.inputLength(x));
        check.due("no proof was made: sections", 1, x.toRead());
        check.due("no proof was made: lines", 1, x.changedLines());
        check.due("everything is that of the text", Seen.book(Driver.loaded(START + "section 1 lines 5 a;")),
                Seen.book(x));
        check.due("load of the empty buffer", ContentsSetter.PARSE_ERROR, x.load());
        check.due("a load without sections", 0, Driver.load(x, START));
        check.due("nothing of the book before", Seen.book(Driver.loaded(START)), Seen.book(x));
    }

    // ---- Promises 5 and 6: "of the last load(); 0 if it had none or there was no load()" ----

    private static void errorOfTheLastLoad() {
        ContentsSetter x = new ContentsSetter();
        check.due("code without load()", 0, x.errorCode());
        check.due("position without load()", ContentsSetter.NONE, x.errorPosition());
        Driver.load(x, START + "right;right;");
        check.due("code 3", 3, x.errorCode());
        check.due("position 37", 37, x.errorPosition());
        Driver.load(x, "book width 7");
        check.due("code 2", 2, x.errorCode());
        check.due("position 11", 11, x.errorPosition());
        x.load();
        check.due("code of an empty text", 1, x.errorCode());
        check.due("position in an empty text", 0, x.errorPosition());
        Driver.load(x, START);
        check.due("code of a right text", 0, x.errorCode());
        check.due("position in a right text", ContentsSetter.NONE, x.errorPosition());
        Driver.load(x, " ?");
        Driver.insert(x, 0, 1, 0, "a");
        x.setLength(0, 7);
        Driver.find(x, "9");
        Driver.feed(x, "9");
        check.dueThrow("a wrong title", Check.ARGUMENT, () -> x.setTitle(0));
        x.proof();
        check.due("edits keep the code", 1, x.errorCode());
        check.due("edits keep the position", 1, x.errorPosition());
        x.undo();
        x.undo();
        x.undo();
        x.undo();
        check.due("undo() keeps the code", 1, x.errorCode());
        check.due("undo() keeps the position", 1, x.errorPosition());
    }

    public static void main(String[] args) {
        mostBytes();
        refusedAppendKeepsTheBytes();
        orderOfBytes();
        lengthsOfACut();
        statements();
        wordsOfStatements();
        tokens();
        titles();
        ranges();
        whatTheNumbersAre();
        howOften();
        parts();
        levels();
        howMany();
        loadOfAnError();
        loadOfABook();
        errorOfTheLastLoad();
        check.end();
    }
}
