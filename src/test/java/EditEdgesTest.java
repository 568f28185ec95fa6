/** Section 7 and promises 29 to 39, 49 and 50, sentence by sentence: the edges of words, edits and undo. */
public final class EditEdgesTest {
    private static final Check check = new Check();

    private static final String START = "book width 40 lines 10 page 20;";
    private static final String BASE = START + "style indent 2 hang 3 gap 1 dots 2 grid 3;"
            + "section 1 lines 5 preface;main;section 1 lines 10 of time;section 2 lines 4 rest;"
            + "section 2 lines 3 more rest;section 1 lines 0 end;";

    private static ContentsSetter base() {
        return Driver.loaded(BASE);
    }

    private static String sectionsOf(int... levels) {
        StringBuilder text = new StringBuilder(START);
        for (int level : levels) {
            text.append(level == 0 ? "main;" : "section " + level + " lines 0 a;");
        }
        return text.toString();
    }

    private static String levelsOf(ContentsSetter x) {
        StringBuilder levels = new StringBuilder();
        for (int i = 0; i < x.count(0); i++) {
            levels.append(i == x.count(1) ? "|" : "").append(x.section(i, 0));
        }
        return levels.toString();
    }

    // ---- Promises 29 to 31: words ----

    /** "in alphabetical order (a word comes before those that begin with it)" */
    private static void orderOfWords() {
        ContentsSetter x = Driver.loaded(START + "section 1 lines 0 b ab a abcdefghijkl;"
                + "section 1 lines 0 abcdefghijk abcdefghijkl z b;section 1 lines 0 zz aa b b b;");
        String[] words = {"a", "aa", "ab", "abcdefghijk", "abcdefghijkl", "b", "z", "zz"};
        int[] sets = {1, 4, 1, 2, 3, 7, 2, 4};
        check.due("wordCount", 8, x.wordCount());
        for (int i = 0; i < words.length; i++) {
            check.due("findWord of " + words[i], i, Driver.find(x, words[i]));
            check.due("wordSections(" + i + ")", sets[i], x.wordSections(i));
        }
        for (int word : new int[] {-1, 8, Integer.MIN_VALUE, Integer.MAX_VALUE}) {
            check.dueThrow("wordSections(" + word + ")", Check.INDEX, () -> x.wordSections(word));
        }
    }

    /** "the word that is the whole content of the input buffer", "The buffer is empty afterwards." */
    private static void wholeContent() {
        ContentsSetter x = Driver.loaded(START + "section 1 lines 0 a abcdefghijkl;");
        check.due("a word", 0, Driver.find(x, "a"));
        check.due("twelve letters", 1, Driver.find(x, "abcdefghijkl"));
        String[] none = {"", "b", "ab", "abcdefghijk", "abcdefghijklm", "abcdefghijkla", " a", "a ", "\na", "a\n",
            "a a", "a;", "A", "1", "\0", "a\0", "\u00e1", "`", "{", "a`", "`a", "a{", "{a", "abcdefghijkl`",
            "aaaaaaaaaaaaaaaaaaaa", "a".repeat(1100)};
        for (String content : none) {
            check.due("findWord of <" + content + ">", ContentsSetter.NONE, Driver.find(x, content));
            check.due("input after <" + content + ">", 0, Seen.inputLength(x));
        }
        ContentsSetter z = Driver.loaded(START + "section 1 lines 0 zzzzzzzzzzzz;");
        for (char c = 'a'; c <= 'z'; c++) {
            check.due("a letter more: " + c, ContentsSetter.NONE, Driver.find(z, "zzzzzzzzzzzz" + c));
        }
        check.due("once more", 1, Driver.find(x, "abcdefghijkl"));
        check.due("input after a word", 0, Seen.inputLength(x));
        check.due("of the empty buffer", ContentsSetter.NONE, x.findWord());
        check.due("a word of a label is none", ContentsSetter.NONE, Driver.find(Driver.loaded(sectionsOf(0, 1)), "1"));
        check.due("without sections", ContentsSetter.NONE, Driver.find(new ContentsSetter(), "a"));
        check.due("undoCount", 1, x.undoCount());
    }

    private static void mostWords() {
        ContentsSetter x = Driver.loaded(sectionsOf(1, 1, 1, 1, 1, 1, 1, 1, 1, 1, 1, 1, 1, 1, 1, 1, 1, 1, 1, 1, 1, 1,
                1, 1));
        check.due("the same word everywhere", 1, x.wordCount());
        check.due("its sections", (1 << 24) - 1, x.wordSections(0));
        for (int i = 0; i < 24; i++) {
            // The letters of the sections go up and down in the alphabet, and so do those in a title.
            StringBuilder title = new StringBuilder();
            for (char c = 'h'; c >= 'a'; c--) {
                title.append((char) ('a' + i * 7 % 24)).append((char) (i % 2 == 0 ? c : 'a' + 'h' - c)).append(' ');
            }
            Driver.setTitle(x, i, title.toString());
        }
        check.due("192 words", 192, x.wordCount());
        for (int i = 0; i < 192; i++) {
            // 7 times 7 is 49, one more than 2 times 24.
            check.due("wordSections(" + i + ") of 192", 1 << i / 8 * 7 % 24, x.wordSections(i));
        }
        check.due("the first", 0, Driver.find(x, "aa"));
        check.due("the last", 191, Driver.find(x, "xh"));
        check.due("behind the last", ContentsSetter.NONE, Driver.find(x, "xi"));
        check.dueThrow("wordSections(192)", Check.INDEX, () -> x.wordSections(192));
    }

    private static void wordsFollowTheEdits() {
        ContentsSetter x = Driver.loaded(START + "section 1 lines 0 a b;section 2 lines 0 b c;section 1 lines 0 c;");
        check.due("words", 3, x.wordCount());
        x.remove(0);
        check.due("words that are left", 1, x.wordCount());
        check.due("sections that are left", 1, x.wordSections(0));
        x.undo();
        check.due("words come back", 3, x.wordCount());
        check.due("sections come back", 6, x.wordSections(2));
        Driver.insert(x, 0, 1, 0, "c");
        check.due("sections go up", 13, x.wordSections(2));
        Driver.setTitle(x, 2, "d");
        check.due("a word goes", 9, x.wordSections(2));
        check.due("a word comes", 4, x.wordSections(3));
    }

    // ---- Promise 32: setLength ----

    private static void lengths() {
        ContentsSetter x = base();
        check.due("setLength(0, 0)", 5, x.setLength(0, 0));
        check.due("setLength(0, 500)", 0, x.setLength(0, 500));
        check.due("setLength(0, 500) again", 500, x.setLength(0, 500));
        check.due("setLength(4, 500)", 0, x.setLength(4, 500));
        check.due("length of the first", 500, x.section(0, 1));
        check.due("length of the last", 500, x.section(4, 1));
        check.due("the page behind the front part", 2 + 26, x.bookPage(1));
        check.due("pages of the book", 27 + 2 + 26, x.count(4));
        x.setLength(0, 497);
        check.due("500 lines are 25 pages", 2 + 25, x.bookPage(1));
        x.setLength(0, 498);
        check.due("501 lines are 26 pages", 2 + 26, x.bookPage(1));
        check.due("all count, also the one that changed nothing", 6, x.undoCount());
    }

    // ---- Promise 33: setLevel ----

    private static void mustTakeLevel(String levels, String text, int section, int level, String due) {
        ContentsSetter x = Driver.loaded(text);
        check.due("levels before setLevel(" + section + ", " + level + ")", levels, levelsOf(x));
        int before = x.section(section, 0);
        check.due("setLevel(" + section + ", " + level + ") of " + levels, before, x.setLevel(section, level));
        check.due("levels after setLevel(" + section + ", " + level + ") of " + levels, due, levelsOf(x));
        check.due("undoCount after setLevel(" + section + ", " + level + ") of " + levels, 2, x.undoCount());
    }

    private static void mustNotTakeLevel(String text, int section, int level) {
        ContentsSetter x = Driver.loaded(text);
        String levels = levelsOf(x);
        String what = "setLevel(" + section + ", " + level + ") of " + levels;
        check.dueThrow(what, Check.ARGUMENT, () -> x.setLevel(section, level));
        check.due("levels after " + what, levels, levelsOf(x));
        check.due("undoCount after " + what, 1, x.undoCount());
    }

    private static void levels() {
        String text = sectionsOf(1, 2, 3, 4, 0, 1, 2, 3);
        mustTakeLevel("1234|123", text, 3, 4, "1234|123");
        mustTakeLevel("1234|123", text, 3, 3, "1233|123");
        mustTakeLevel("1234|123", text, 3, 1, "1231|123");
        mustTakeLevel("1234|123", text, 6, 1, "1234|121");
        mustTakeLevel("1234|123", text, 6, 2, "1234|122");
        mustTakeLevel("1234|123", text, 4, 1, "1234|123");
        mustNotTakeLevel(text, 2, 2);
        mustNotTakeLevel(text, 2, 1);
        mustNotTakeLevel(text, 2, 4);
        mustNotTakeLevel(text, 1, 1);
        mustNotTakeLevel(text, 0, 2);
        mustNotTakeLevel(text, 4, 2);
        mustNotTakeLevel(text, 5, 1);
        mustNotTakeLevel(text, 6, 4);
        mustNotTakeLevel(text, 6, 0);
        mustNotTakeLevel(text, 3, 5);
        // A section may be as deep as the one behind it, or one less.
        String flat = sectionsOf(1, 2, 2, 2, 1);
        mustTakeLevel("12221", flat, 1, 1, "11221");
        mustTakeLevel("12221", flat, 2, 3, "12321");
        mustTakeLevel("12221", flat, 2, 1, "12121");
        mustTakeLevel("12221", flat, 4, 3, "12223");
        mustNotTakeLevel(flat, 4, 4);
        mustNotTakeLevel(flat, 1, 3);
        mustNotTakeLevel(flat, 2, 4);
        // The parts do not know of one another.
        mustTakeLevel("11|12", sectionsOf(1, 1, 0, 1, 2), 1, 2, "12|12");
        mustTakeLevel("12|12", sectionsOf(1, 2, 0, 1, 2), 1, 1, "11|12");
        mustNotTakeLevel(sectionsOf(1, 2, 0, 1, 2), 2, 2);
        mustTakeLevel("1", sectionsOf(1), 0, 1, "1");
        mustNotTakeLevel(sectionsOf(1), 0, 2);
    }

    // ---- Promise 34: setTitle ----

    private static void titles() {
        ContentsSetter x = base();
        check.due("a word of a letter", 1, Driver.setTitle(x, 0, "z"));
        check.due("its words", 1, x.section(0, 3));
        check.due("its width", 2, x.titleWidth(0));
        check.due("eight words of twelve letters", 1, Driver.setTitle(x, 0, "abcdefghijkl ".repeat(8)));
        check.due("their number", 8, x.section(0, 3));
        check.due("their width", 8 * 20 + 7, x.titleWidth(0));
        check.due("input is empty", 0, Seen.inputLength(x));
        check.due("the words of statements", 8, Driver.setTitle(x, 0, "book style right main section lines"));
        check.due("spaces and newlines around", 6, Driver.setTitle(x, 0, " \n\n a\n\n b \n"));
        check.due("two words", 2, x.section(0, 3));
        check.due("newlines around", 2, Driver.setTitle(x, 0, "\na\n"));
        check.due("the last section", 1, Driver.setTitle(x, 4, "a"));
        check.due("as many as 1100 bytes", 1, Driver.setTitle(x, 4, " ".repeat(1098) + "ab"));
        check.due("their title", "2 ab .......... 3\n", Driver.line(x, x.count(2) - 1));
        check.due("only six are kept", 6, x.undoCount());
    }

    // ---- Promise 35: insert ----

    private static void mustInsert(String text, int section, int level, String due) {
        ContentsSetter x = Driver.loaded(text);
        String what = "insert(" + section + ", " + level + ", 0) into " + levelsOf(x);
        int howMany = x.count(0);
        check.due(what, howMany + 1, Driver.insert(x, section, level, 0, "b"));
        check.due("levels after " + what, due, levelsOf(x));
        check.due("where b is after " + what, 1 << section, x.wordSections(x.wordCount() - 1));
        check.due("input after " + what, 0, Seen.inputLength(x));
        check.due("undoCount after " + what, 2, x.undoCount());
    }

    private static void mustNotInsert(String text, int section, int level) {
        ContentsSetter x = Driver.loaded(text);
        String levels = levelsOf(x);
        String what = "insert(" + section + ", " + level + ", 0) into " + levels;
        Driver.feed(x, "b");
        check.dueThrow(what, Check.ARGUMENT, () -> x.insert(section, level, 0));
        check.due("levels after " + what, levels, levelsOf(x));
        check.due("input after " + what, 1, Seen.inputLength(x));
        check.due("undoCount after " + what, 1, x.undoCount());
    }

    /** "it comes into the part of the section that has this number now, at the end into the part of the last one" */
    private static void inserts() {
        String text = sectionsOf(1, 2, 0, 1, 2);
        mustInsert(text, 0, 1, "112|12");
        mustNotInsert(text, 0, 2);
        mustInsert(text, 1, 1, "112|12");
        mustInsert(text, 1, 2, "122|12");
        mustNotInsert(text, 1, 3);
        mustInsert(text, 2, 1, "12|112");
        mustNotInsert(text, 2, 2);
        mustInsert(text, 3, 1, "12|112");
        mustInsert(text, 3, 2, "12|122");
        mustNotInsert(text, 3, 3);
        mustInsert(text, 4, 1, "12|121");
        mustInsert(text, 4, 3, "12|123");
        mustNotInsert(text, 4, 4);
        // Without sections, with the one part and with the other.
        mustInsert(START, 0, 1, "1");
        mustInsert(START + "main;", 0, 1, "1");
        mustNotInsert(START, 0, 2);
        check.due("the front part of a book with main", 1, frontAfterInsert(START + "main;", 0));
        check.due("the front part of a new book", 1, frontAfterInsert(START, 0));
        mustInsert(sectionsOf(1), 1, 2, "12");
        check.due("at the end of the front part", 2, frontAfterInsert(sectionsOf(1, 0), 1));
        check.due("before the main part alone", 0, frontAfterInsert(sectionsOf(0, 1), 0));
        check.due("at the end of the main part alone", 0, frontAfterInsert(sectionsOf(0, 1), 1));
        // The next one would be too deep.
        mustNotInsert(sectionsOf(1, 2, 3), 2, 1);
        mustInsert(sectionsOf(1, 2, 3), 2, 2, "1223");
        mustInsert(sectionsOf(1, 2, 3), 2, 3, "1233");
        mustInsert(sectionsOf(1, 2, 3, 4), 3, 4, "12344");
        mustNotInsert(sectionsOf(1, 2, 3, 4), 3, 2);
        mustInsert(sectionsOf(1, 2, 3, 4), 4, 4, "12344");
        mustNotInsert(sectionsOf(1, 2, 3, 4), 4, 5);
        mustNotInsert(sectionsOf(1, 2, 3, 4), 4, 0);
    }

    private static int frontAfterInsert(String text, int section) {
        ContentsSetter x = Driver.loaded(text);
        Driver.insert(x, section, 1, 0, "b");
        return x.count(1);
    }

    private static void insertsOfAllKinds() {
        ContentsSetter x = base();
        check.due("length 0", 6, Driver.insert(x, 5, 1, 0, "b"));
        check.due("length 500", 7, Driver.insert(x, 6, 2, 500, " \n b\nc d e f g h ijklmnopqrst \n"));
        int[] values = {2, 500, 1, 8, 5, 0, 1};
        for (int i = 0; i < values.length; i++) {
            check.due("section(6, " + i + ")", values[i], x.section(6, i));
        }
        check.due("the next one stays as it was", 5, x.section(0, 1));
        ContentsSetter full = Driver.loaded(sectionsOf(1, 1, 1, 1, 1, 1, 1, 1, 1, 1, 1, 1, 1, 1, 1, 1, 1, 1, 1, 1, 1, 1,
                1));
        check.due("the 24th", 24, Driver.insert(full, 23, 1, 0, "b"));
        Driver.feed(full, "c");
        check.dueThrow("the 25th", Check.STATE, () -> full.insert(24, 1, 0));
        check.dueThrow("the 25th in the middle", Check.STATE, () -> full.insert(12, 1, 0));
        check.due("input is kept", 1, Seen.inputLength(full));
        full.remove(0);
        check.due("there is room again", 24, full.insert(0, 1, 0));
        check.due("the first is new", 1, full.wordSections(full.wordCount() - 1));
    }

    /** Those behind a new section or a removed one keep all that is theirs. */
    private static void theOthersMove() {
        for (int place = 0; place < 24; place++) {
            StringBuilder text = new StringBuilder(START);
            for (int i = 0; i < 23; i++) {
                text.append(i == 10 ? "main;" : "").append("section ").append(i % 10 == 0 ? 1 : 2);
                text.append(" lines ").append(i).append(' ').append("a".repeat(i % 12 + 1)).append(";");
            }
            ContentsSetter x = Driver.loaded(text.toString());
            Driver.insert(x, place, 1, 500, "b");
            check.due("front part after insert at " + place, place < 10 ? 11 : 10, x.count(1));
            for (int i = 0; i < 24; i++) {
                int before = i < place ? i : i - 1;
                int level = i == place || before % 10 == 0 ? 1 : 2;
                check.due("length of " + i + " after insert at " + place, i == place ? 500 : before, x.section(i, 1));
                check.due("level of " + i + " after insert at " + place, level, x.section(i, 0));
                check.due("titleWidth of " + i + " after insert at " + place, i == place ? 2 : 2 * (before % 12 + 1),
                        x.titleWidth(i) - (i < x.count(1) ? 0 : labelWidth(x, i)));
            }
            x.remove(place);
            check.due("sections that remove(" + place + ") leaves", true, x.count(0) < 24);
            for (int i = 0; i < place; i++) {
                check.due("length of " + i + " after remove(" + place + ")", i, x.section(i, 1));
            }
            int last = x.count(0) - 1;
            check.due("last length after remove(" + place + ")", last < place ? last : 22, x.section(last, 1));
        }
    }

    /** The width of a label and of the space behind it, in a part with two levels. */
    private static int labelWidth(ContentsSetter x, int section) {
        int parent = x.section(section, 4);
        String label = (parent < 0 ? "" : x.section(parent, 6) + ".") + x.section(section, 6) + " ";
        return Model.width(label);
    }

    // ---- Promise 36: remove ----

    private static void mustRemove(String text, int section, int howMany, String due) {
        ContentsSetter x = Driver.loaded(text);
        String what = "remove(" + section + ") of " + levelsOf(x);
        int before = x.count(0);
        check.due(what, howMany, x.remove(section));
        check.due("levels after " + what, due, levelsOf(x));
        check.due("sections after " + what, before - howMany, x.count(0));
        check.due("undoCount after " + what, 2, x.undoCount());
    }

    /** "all sections behind it in its part that have greater levels, up to the next one that has not" */
    private static void removes() {
        String text = sectionsOf(1, 2, 3, 2, 3, 4, 1, 2, 0, 1, 2, 3, 3, 2);
        mustRemove(text, 0, 6, "12|12332");
        mustRemove(text, 1, 2, "123412|12332");
        mustRemove(text, 2, 1, "1223412|12332");
        mustRemove(text, 3, 3, "12312|12332");
        mustRemove(text, 4, 2, "123212|12332");
        mustRemove(text, 5, 1, "1232312|12332");
        mustRemove(text, 6, 2, "123234|12332");
        mustRemove(text, 7, 1, "1232341|12332");
        mustRemove(text, 8, 5, "12323412");
        mustRemove(text, 9, 3, "12323412|12");
        mustRemove(text, 12, 1, "12323412|1233");
        mustRemove(sectionsOf(1), 0, 1, "");
        mustRemove(sectionsOf(0, 1, 2), 0, 2, "");
        mustRemove(sectionsOf(1, 2, 0, 1, 2), 0, 2, "|12");
        // What stood behind the last section does not come back.
        ContentsSetter z = Driver.loaded(sectionsOf(1, 2, 3, 4));
        check.due("the two deepest", 2, z.remove(2));
        check.due("level 1 before nothing", 2, z.setLevel(1, 1));
        check.due("level 2 before nothing", 1, z.setLevel(1, 2));
        check.due("insert of level 1 before nothing", 3, Driver.insert(z, 2, 1, 0, "b"));
        check.due("remove of it", 1, z.remove(2));
        check.due("remove of the last one left behind a chapter", 1, z.remove(1));
        check.due("remove of the chapter", 1, z.remove(0));
        ContentsSetter x = Driver.loaded(sectionsOf(1, 0, 1));
        x.remove(1);
        Driver.insert(x, 1, 1, 0, "b");
        check.due("no main part is left to insert into", 2, x.count(1));
        check.due("the main part begins", 0, x.count(5));
        ContentsSetter y = Driver.loaded(sectionsOf(1, 0, 1));
        y.remove(0);
        Driver.insert(y, 1, 1, 0, "b");
        check.due("no front part is left", 0, y.count(1));
        check.due("the label of the second chapter", 1 + 1 + 2 + 1, y.titleWidth(1));
        y.remove(0);
        y.remove(0);
        Driver.insert(y, 0, 1, 0, "b");
        check.due("nothing is left: into the front part", 1, y.count(1));
    }

    /** All that follows from the sections that are there, beside what Seen tells. */
    private static String whatFollows(ContentsSetter x) {
        StringBuilder text = new StringBuilder("overfull " + x.overfullCount() + " collisions " + x.collisions());
        for (int unit = 0; unit < 40; unit++) {
            text.append(' ').append(x.dotsAt(unit));
        }
        for (int i = 0; i <= x.count(0); i++) {
            text.append("\nplaces ").append(x.crowded(i)).append(' ').append(x.longest(i));
        }
        for (int i = 0; i < x.count(0); i++) {
            text.append("\nsection ").append(x.slack(i)).append(' ').append(x.pagesIf(i, 40));
            text.append(' ').append(x.section(i, 4)).append(' ').append(x.section(i, 5)).append(' ');
            text.append(x.section(i, 6)).append(' ').append(x.numberWidth(i)).append(' ').append(x.bookPage(i));
        }
        for (int i = 0; i < x.count(2); i++) {
            text.append("\nline ").append(x.collides(i)).append(' ').append(x.isOverfull(i));
        }
        return text.append("\nwidths ").append(x.leastWidth(1)).append(' ').append(x.bestWidth()).toString();
    }

    /** A book without its last sections is as one that never had them. */
    private static void removedLeavesNothing() {
        String kept = START + "section 1 lines 5 preface;main;section 1 lines 10 of time;";
        String[] ends = {"section 2 lines 4 rest;", "section 1 lines 0 end;", "section 2 lines 40 mmmmmmmmmmmm mmmmmmmmmmmm;",
            "section 2 lines 1 mmmmmmmmmmmm a;section 3 lines 1 a;section 3 lines 1 b;"};
        for (String end : ends) {
            ContentsSetter x = Driver.loaded(kept + end);
            // A book that would be has the third section elsewhere; that must be gone as well.
            x.pagesIf(1, 400);
            x.remove(2);
            ContentsSetter never = Driver.loaded(kept);
            check.due("the book without " + end, Seen.book(never), Seen.book(x));
            check.due("what follows without " + end, whatFollows(never), whatFollows(x));
            Driver.load(x, kept + end);
            Driver.load(x, kept);
            check.due("what follows from a text without " + end, whatFollows(never), whatFollows(x));
        }
        ContentsSetter x = Driver.loaded(kept + ends[0]);
        x.remove(0);
        x.remove(0);
        ContentsSetter never = Driver.loaded(START);
        check.due("the book without any", Seen.book(never), Seen.book(x));
        check.due("what follows without any", whatFollows(never), whatFollows(x));
    }

    // ---- Promises 37 to 39: setWidth, setGrid and setRight ----

    private static void settings() {
        ContentsSetter x = base();
        check.due("setWidth(20)", 40, x.setWidth(20));
        check.due("width 20", 20, x.setting(0));
        check.due("limit of width 20", 17, x.count(7));
        check.due("setWidth(120)", 20, x.setWidth(120));
        check.due("limit of width 120", 117, x.count(7));
        check.due("setWidth(120) again", 120, x.setWidth(120));
        check.due("setGrid(1)", 3, x.setGrid(1));
        check.due("grid 1", 1, x.setting(7));
        check.due("the first dot of grid 1", 13, x.firstDot(0));
        check.due("setGrid(9)", 1, x.setGrid(9));
        check.due("the first dot of grid 9", 18, x.firstDot(0));
        check.due("setGrid(9) again", 9, x.setGrid(9));
        check.due("setRight(false)", false, x.setRight(false));
        check.due("setRight(true)", false, x.setRight(true));
        check.due("isRight", true, x.isRight());
        check.due("right page", 3, x.page(0));
        check.due("setRight(true) again", true, x.setRight(true));
        check.due("setRight(false) again", true, x.setRight(false));
        check.due("not isRight", false, x.isRight());
        check.due("page", 2, x.page(0));
        ContentsSetter y = new ContentsSetter();
        y.setWidth(20);
        y.setRight(true);
        Driver.load(y, START);
        check.due("a text has its own width", 40, y.setting(0));
        check.due("a text has its own pages", false, y.isRight());
    }

    // ---- Section 7: undo ----

    private interface Edit {
        void on(ContentsSetter x);
    }

    /** A call that can be undone: it counts, and undo() brings back all but the buffers and the parse error. */
    private static void mustUndo(String what, Edit edit) {
        for (boolean proofed : new boolean[] {false, true}) {
            ContentsSetter x = base();
            if (proofed) {
                x.proof();
                x.setLength(3, 30);
            }
            String before = Seen.book(x);
            int undoable = x.undoCount();
            edit.on(x);
            check.due("undoCount after " + what, undoable + 1, x.undoCount());
            check.due("undo of " + what, undoable, x.undo());
            check.due("book after undo of " + what, before, Seen.book(x));
            check.due("undoCount after undo of " + what, undoable, x.undoCount());
            x.undo();
            String deeper = Seen.book(x);
            check.due("undo of what was before " + what, !proofed, deeper.equals(Seen.book(new ContentsSetter())));
        }
    }

    private static void undoOfEach() {
        mustUndo("load()", x -> Driver.load(x, START + "right;section 1 lines 0 other;"));
        mustUndo("load() of no sections", x -> Driver.load(x, START));
        mustUndo("load() of the same", x -> Driver.load(x, BASE));
        mustUndo("setLength()", x -> x.setLength(2, 500));
        mustUndo("setLength() of the same", x -> x.setLength(2, 4));
        mustUndo("setLevel()", x -> x.setLevel(3, 3));
        mustUndo("setLevel() of the same", x -> x.setLevel(3, 2));
        mustUndo("setTitle()", x -> Driver.setTitle(x, 0, "a b c d e f g h"));
        mustUndo("setTitle() of the same", x -> Driver.setTitle(x, 0, "preface"));
        mustUndo("insert() at 0", x -> Driver.insert(x, 0, 1, 7, "b c"));
        mustUndo("insert() at 2", x -> Driver.insert(x, 2, 2, 7, "b c"));
        mustUndo("insert() at the end", x -> Driver.insert(x, 5, 1, 7, "b c"));
        mustUndo("remove() of the first", x -> x.remove(0));
        mustUndo("remove() of three", x -> x.remove(1));
        mustUndo("remove() of the last", x -> x.remove(4));
        mustUndo("setWidth()", x -> x.setWidth(20));
        mustUndo("setWidth() of the same", x -> x.setWidth(40));
        mustUndo("setGrid()", x -> x.setGrid(7));
        mustUndo("setGrid() of the same", x -> x.setGrid(3));
        mustUndo("setRight()", x -> x.setRight(true));
        mustUndo("setRight() of the same", x -> x.setRight(false));
        mustUndo("proof()", x -> x.proof());
    }

    /** No other call counts: not the questions, and not what is refused. */
    private static void whatCannotBeUndone() {
        ContentsSetter x = base();
        x.writeLine(0);
        x.writeTable();
        x.toRead();
        x.changedLines();
        x.slack(0);
        x.pagesIf(0, 500);
        x.leastWidth(1);
        x.bestWidth();
        Driver.find(x, "rest");
        check.due("wrong load()", ContentsSetter.PARSE_ERROR, x.load());
        check.dueThrow("setLength(0, 501)", Check.ARGUMENT, () -> x.setLength(0, 501));
        check.dueThrow("setLevel(0, 2)", Check.ARGUMENT, () -> x.setLevel(0, 2));
        check.dueThrow("setTitle(0)", Check.ARGUMENT, () -> x.setTitle(0));
        check.dueThrow("insert(0, 1, 0)", Check.ARGUMENT, () -> x.insert(0, 1, 0));
        check.dueThrow("remove(5)", Check.INDEX, () -> x.remove(5));
        check.dueThrow("setWidth(19)", Check.ARGUMENT, () -> x.setWidth(19));
        check.dueThrow("setGrid(0)", Check.ARGUMENT, () -> x.setGrid(0));
        check.due("undoCount", 1, x.undoCount());
        check.due("undo of the load", 0, x.undo());
        check.dueThrow("undo of no more", Check.STATE, () -> x.undo());
        check.due("undo() cannot be undone", 0, x.undoCount());
    }

    /** "the last 6 are kept" */
    private static void theLastSix() {
        ContentsSetter x = new ContentsSetter();
        check.dueThrow("undo of nothing", Check.STATE, () -> x.undo());
        for (int i = 1; i <= 20; i++) {
            x.setWidth(20 + i);
            check.due("undoCount after " + i, Math.min(i, 6), x.undoCount());
        }
        for (int i = 5; i >= 0; i--) {
            check.due("undo to " + i, i, x.undo());
            check.due("width after undo to " + i, 34 + i, x.setting(0));
        }
        check.dueThrow("the seventh is gone", Check.STATE, () -> x.undo());
        check.due("width after all", 34, x.setting(0));
        for (int i = 1; i <= 6; i++) {
            x.setWidth(50 + i);
        }
        check.due("six again", 6, x.undoCount());
        x.undo();
        x.undo();
        x.setWidth(100);
        check.due("a new call comes behind those that are left", 5, x.undoCount());
        check.due("undo of it", 4, x.undo());
        check.due("width after it", 54, x.setting(0));
        check.due("the one before", 3, x.undo());
        check.due("width before", 53, x.setting(0));
        for (int i = 2; i >= 0; i--) {
            x.undo();
        }
        check.due("the first of the six", 34, x.setting(0));
        check.due("six calls exactly", 0, x.undoCount());
    }

    /** "undo() restores everything except the two buffers and the parse error." */
    private static void whatStays() {
        ContentsSetter x = base();
        x.setLength(1, 11);
        Driver.load(x, "book");
        x.writeLine(0);
        Driver.feed(x, "kept");
        x.undo();
        check.due("output", "preface ........ ii\n", Seen.output(x));
        check.due("input", 4, Seen.inputLength(x));
        check.due("code", 1, x.errorCode());
        check.due("position", 4, x.errorPosition());
        x.undo();
        check.due("the title in the input", 1, x.insert(0, 1, 0));
        check.due("undo of insert()", 0, x.undo());
        check.due("the input does not come back", 0, Seen.inputLength(x));
        ContentsSetter y = new ContentsSetter();
        Driver.load(y, "?");
        Driver.load(y, BASE);
        y.undo();
        check.due("the error does not come back", 0, y.errorCode());
        check.due("nor its position", ContentsSetter.NONE, y.errorPosition());
    }

    /** "An object is used for at most 512 calls": the last of them is as good as the first. */
    private static void mostCalls() {
        ContentsSetter x = new ContentsSetter();
        check.due("the first call", 60, x.setWidth(20));
        for (int i = 2; i <= 510; i++) {
            check.due("call " + i, 20 + (i - 2) % 100, x.setWidth(20 + (i - 1) % 100));
        }
        check.due("call 511", 5, x.undo());
        check.due("call 512", 20 + 508 % 100, x.setting(0));
    }

    public static void main(String[] args) {
        orderOfWords();
        wholeContent();
        mostWords();
        wordsFollowTheEdits();
        lengths();
        levels();
        titles();
        inserts();
        insertsOfAllKinds();
        theOthersMove();
        removes();
        removedLeavesNothing();
        settings();
        undoOfEach();
        whatCannotBeUndone();
        theLastSix();
        whatStays();
        mostCalls();
        check.end();
    }
}
