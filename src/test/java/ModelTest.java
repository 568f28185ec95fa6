import java.util.NoSuchElementException;
import java.util.Random;

/** Runs of calls, always the same ones, whose answers are compared with those of Model. */
public final class ModelTest {
    private static final int RUNS = 2000;

    // The document promises nothing of an object after its 512th call. A step takes at most 130.
    private static final int MOST_CALLS = 512;
    private static final int MOST_CALLS_OF_A_STEP = 130;

    private static final Check check = new Check();
    private static Random random;
    private static ContentsSetter x;
    private static Model m;
    private static int run;
    private static int calls;
    private static int unsettled = 0;
    private static int collisions = 0;
    private static int overfull = 0;
    private static int thrown = 0;
    private static int loaded = 0;
    private static int refused = 0;
    private static int mostCalls = 0;

    /** A call of the one or the other, an int for every answer. */
    private interface Call {
        int run();
    }

    private static String answer(Call call) {
        try {
            return "" + call.run();
        } catch (IndexOutOfBoundsException | IllegalArgumentException | IllegalStateException
                | NoSuchElementException e) {
            return e.getClass().getName();
        }
    }

    private static void same(String what, Call program, Call model) {
        calls++;
        String want = answer(model);
        if (want.startsWith("java")) {
            thrown++;
        }
        check.due("run " + run + ": " + what, want, answer(program));
    }

    private static int below(int bound) {
        return random.nextInt(bound);
    }

    private static boolean often(int percent) {
        return below(100) < percent;
    }

    // ---- texts ----

    private static String word() {
        int length = often(70) ? 1 + below(4) : 1 + below(12);
        if (often(1)) {
            length = 13;
        }
        StringBuilder text = new StringBuilder();
        for (int i = 0; i < length; i++) {
            text.append((char) ('a' + (often(50) ? below(3) : below(26))));
        }
        return text.toString();
    }

    private static String title(int most) {
        StringBuilder text = new StringBuilder();
        int words = 1 + below(most);
        for (int i = 0; i < words; i++) {
            text.append(i == 0 ? "" : " ").append(word());
        }
        return text.toString();
    }

    private static String bookText() {
        StringBuilder text = new StringBuilder("book width ");
        text.append(often(60) ? 20 + below(25) : 20 + below(101));
        text.append(" lines ").append(often(70) ? 2 + below(5) : 2 + below(59));
        text.append(" page ").append(often(60) ? 5 + below(20) : 5 + below(95)).append(";");
        if (often(60)) {
            text.append("style indent ").append(below(10)).append(" hang ").append(below(10));
            text.append(" gap ").append(often(70) ? below(4) : below(10)).append(" dots ").append(below(10));
            text.append(" grid ").append(1 + below(9)).append(" ; ");
        }
        if (often(40)) {
            text.append("right;\n");
        }
        int sections = often(80) ? below(12) : below(26);
        int main = often(70) ? below(sections + 1) : -1;
        int level = 0;
        for (int i = 0; i < sections; i++) {
            if (i == main) {
                text.append("main;");
                level = 0;
            }
            level = Math.min(4, 1 + below(level + 1));
            if (often(1)) {
                level += 2;
            }
            text.append("section ").append(level).append(" lines ").append(often(70) ? below(40) : below(501));
            text.append(' ').append(title(sections > 15 ? 2 : often(5) ? 9 : 5)).append(';');
        }
        return text.toString();
    }

    private static String spoilt(String text) {
        StringBuilder spoilt = new StringBuilder(text);
        int at = below(text.length());
        switch (below(6)) {
            case 0:
                spoilt.deleteCharAt(at);
                break;
            case 1:
                spoilt.setCharAt(at, (char) below(256));
                break;
            case 2:
                spoilt.insert(at, " " + below(600) + " ");
                break;
            case 3:
                spoilt.insert(at, new String[] {"style", "right;", "main;", "book", ";", " 99999999999999999999 "}[below(6)]);
                break;
            case 4:
                spoilt.setLength(at);
                break;
            default:
                spoilt.insert(text.indexOf(';') + 1, new String[] {"right;", "main;", "style"}[below(3)]);
                break;
        }
        return spoilt.toString();
    }

    private static void feed(String text) {
        for (int i = 0; i < text.length(); i += 20) {
            int[] f = new int[5];
            for (int j = 0; j < 20; j++) {
                int sign = i + j < text.length() ? text.charAt(i + j) & 255 : 0;
                f[j / 4] = f[j / 4] << 8 | sign;
            }
            same("append", () -> x.append(f[0], f[1], f[2], f[3], f[4]), () -> m.append(f[0], f[1], f[2], f[3], f[4]));
        }
        truncate(Math.max(0, m.input.length() - Math.floorMod(-text.length(), 20)));
    }

    private static void truncate(int length) {
        same("truncate(" + length + ")", () -> {
            x.truncate(length);
            return 0;
        }, () -> {
            m.truncate(length);
            return 0;
        });
    }

    private static void load(String text) {
        truncate(0);
        feed(text.length() > 1095 ? text.substring(0, 1095) : text);
        same("load " + text, () -> x.load(), () -> m.load());
        same("errorCode of " + text, () -> x.errorCode(), () -> m.errorCode);
        same("errorPosition of " + text, () -> x.errorPosition(), () -> m.errorPosition);
        if (m.errorCode == 0) {
            loaded++;
        } else {
            refused++;
        }
    }

    // ---- calls ----

    private static int aSection() {
        int n = m.book.sections.size();
        return often(92) && n > 0 ? below(n) : below(n + 4) - 2;
    }

    private static void edit() {
        int s = aSection();
        int level = often(97) ? 1 + below(4) : below(7) - 1;
        int lines = often(60) ? below(30) : often(95) ? below(501) : 1001 * below(2) - 500;
        switch (below(12)) {
            case 0:
            case 1:
                same("setLength(" + s + ", " + lines + ")", () -> x.setLength(s, lines), () -> m.setLength(s, lines));
                break;
            case 2:
                same("setLevel(" + s + ", " + level + ")", () -> x.setLevel(s, level), () -> m.setLevel(s, level));
                break;
            case 3:
                newTitle();
                same("setTitle(" + s + ")", () -> x.setTitle(s), () -> m.setTitle(s));
                break;
            case 4:
            case 5:
                newTitle();
                int at = often(95) ? below(m.book.sections.size() + 1) : aSection();
                same("insert(" + at + ", " + level + ", " + lines + ")", () -> x.insert(at, level, lines),
                        () -> m.insert(at, level, lines));
                break;
            case 6:
                if (often(60)) {
                    same("remove(" + s + ")", () -> x.remove(s), () -> m.remove(s));
                }
                break;
            case 7:
                int width = often(60) ? 20 + below(30) : 18 + below(105);
                same("setWidth(" + width + ")", () -> x.setWidth(width), () -> m.setWidth(width));
                break;
            case 8:
                int grid = below(11);
                same("setGrid(" + grid + ")", () -> x.setGrid(grid), () -> m.setGrid(grid));
                break;
            case 9:
                boolean right = often(50);
                same("setRight(" + right + ")", () -> x.setRight(right) ? 1 : 0, () -> m.setRight(right));
                break;
            case 10:
                same("proof()", () -> x.proof(), () -> m.proof());
                break;
            default:
                same("undo()", () -> x.undo(), () -> m.undo());
                break;
        }
    }

    private static void newTitle() {
        if (often(90)) {
            truncate(0);
            String text = title(often(95) ? 8 : 10);
            feed(often(20) ? "\n " + text + " \n" : often(5) ? text + ";" : text);
        }
    }

    private static void lookAtCounts() {
        for (int i = -1; i <= 8; i++) {
            int what = i;
            same("count(" + i + ")", () -> x.count(what), () -> m.count(what));
        }
        same("rounds()", () -> x.rounds(), () -> m.rounds());
        same("toRead()", () -> x.toRead(), () -> m.toRead());
        same("changedLines()", () -> x.changedLines(), () -> m.changedLines());
        same("undoCount()", () -> x.undoCount(), () -> m.undoCount());
        unsettled += m.rounds() == 8 ? 1 : 0;
    }

    private static void lookWhole() {
        for (int i = -1; i <= 8; i++) {
            int what = i;
            same("setting(" + i + ")", () -> x.setting(what), () -> m.setting(what));
            same("wordSections(" + i + ")", () -> x.wordSections(what), () -> m.wordSections(what));
            same("crowded(" + i + ")", () -> x.crowded(what), () -> m.crowded(what));
            same("longest(" + i + ")", () -> x.longest(what), () -> m.longest(what));
        }
        same("isRight()", () -> x.isRight() ? 1 : 0, () -> m.book.right ? 1 : 0);
        same("overfullCount()", () -> x.overfullCount(), () -> m.overfullCount());
        same("collisions()", () -> x.collisions(), () -> m.collisions());
        same("wordCount()", () -> x.wordCount(), () -> m.wordCount());
        collisions += m.collisions();
        overfull += m.overfullCount();
    }

    private static void lookSection() {
        int s = aSection();
        for (int i = -1; i <= 7; i++) {
            int what = i;
            same("section(" + s + ", " + i + ")", () -> x.section(s, what), () -> m.section(s, what));
        }
        same("titleWidth(" + s + ")", () -> x.titleWidth(s), () -> m.titleWidth(s));
        same("page(" + s + ")", () -> x.page(s), () -> m.page(s));
        same("bookPage(" + s + ")", () -> x.bookPage(s), () -> m.bookPage(s));
        same("lineOnPage(" + s + ")", () -> x.lineOnPage(s), () -> m.lineOnPage(s));
        same("numberWidth(" + s + ")", () -> x.numberWidth(s), () -> m.numberWidth(s));
        same("firstLine(" + s + ")", () -> x.firstLine(s), () -> m.firstLine(s));
        same("lineCount(" + s + ")", () -> x.lineCount(s), () -> m.lineCount(s));
        int part = below(100) < 95 ? below(2) : below(4) - 1;
        int page = below(30) - 1;
        same("findPage(" + part + ", " + page + ")", () -> x.findPage(part, page), () -> m.findPage(part, page));
        same("sectionAt(" + page + ")", () -> x.sectionAt(page), () -> m.sectionAt(page));
    }

    private static void lookLine() {
        int n = m.laid.lines.size();
        int l = often(95) && n > 0 ? below(n) : below(n + 4) - 2;
        for (int i = -1; i <= 5; i++) {
            int what = i;
            same("line(" + l + ", " + i + ")", () -> x.line(l, what), () -> m.line(l, what));
        }
        same("dotCount(" + l + ")", () -> x.dotCount(l), () -> m.dotCount(l));
        same("firstDot(" + l + ")", () -> x.firstDot(l), () -> m.firstDot(l));
        same("isOverfull(" + l + ")", () -> x.isOverfull(l) ? 1 : 0, () -> m.isOverfull(l));
        same("collides(" + l + ")", () -> x.collides(l) ? 1 : 0, () -> m.collides(l));
        int unit = below(122) - 1;
        same("dotsAt(" + unit + ")", () -> x.dotsAt(unit), () -> m.dotsAt(unit));
        same("writeLine(" + l + ")", () -> x.writeLine(l), () -> m.writeLine(l));
        lookOutput();
    }

    /** Some bytes in a row, those at both ends more often than others. */
    private static void lookOutput() {
        int n = m.output.length();
        int first = below(n + 20) - 10;
        for (int i = Math.max(first, -1); i <= Math.min(first + 30, n); i++) {
            int at = i;
            same("outputByte(" + i + ")", () -> x.outputByte(at), () -> m.outputByte(at));
        }
    }

    private static void lookAtWhatWouldBe() {
        int s = aSection();
        int lines = below(502) - 1;
        int pages = below(22);
        same("slack(" + s + ")", () -> x.slack(s), () -> m.slack(s));
        same("pagesIf(" + s + ", " + lines + ")", () -> x.pagesIf(s, lines), () -> m.pagesIf(s, lines));
        same("leastWidth(" + pages + ")", () -> x.leastWidth(pages), () -> m.leastWidth(pages));
        same("bestWidth()", () -> x.bestWidth(), () -> m.bestWidth());
    }

    private static void findWord() {
        truncate(0);
        int n = m.book.sections.size();
        String word = n > 0 && often(70) ? m.book.sections.get(below(n)).words.get(0) : word();
        feed(often(10) ? word + " " : word);
        same("findWord() of " + word, () -> x.findWord(), () -> m.findWord());
    }

    private static void step() {
        int kind = below(100);
        if (kind < 4) {
            String text = bookText();
            load(often(50) ? spoilt(text) : text);
        } else if (kind < 55) {
            edit();
            lookAtCounts();
            if (often(30)) {
                lookWhole();
            }
        } else if (kind < 70) {
            lookSection();
        } else if (kind < 85) {
            lookLine();
        } else if (kind < 88) {
            lookAtWhatWouldBe();
        } else if (kind < 94) {
            same("writeTable()", () -> x.writeTable(), () -> m.writeTable());
            lookOutput();
        } else {
            findWord();
        }
    }

    private static void seenEnough(String what, int seen) {
        check.due("runs have " + what, true, seen >= 20);
    }

    public static void main(String[] args) {
        for (run = 0; run < RUNS; run++) {
            random = new Random(7000 + run);
            x = new ContentsSetter();
            m = new Model();
            calls = 0;
            if (often(85)) {
                load(bookText());
            }
            while (calls <= MOST_CALLS - MOST_CALLS_OF_A_STEP) {
                step();
            }
            mostCalls = Math.max(mostCalls, calls);
        }
        check.due("no run has more than 512 calls", true, mostCalls <= MOST_CALLS);
        seenEnough("tables that do not settle", unsettled);
        seenEnough("collisions", collisions);
        seenEnough("overfull lines", overfull);
        seenEnough("exceptions", thrown);
        seenEnough("texts", loaded);
        seenEnough("texts with errors", refused);
        System.out.println(unsettled + " unsettled, " + collisions + " collisions, " + overfull + " overfull, "
                + thrown + " thrown, " + loaded + " loaded, " + refused + " refused, at most " + mostCalls
                + " calls a run");
        check.end();
    }
}
