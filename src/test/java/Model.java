import java.util.ArrayDeque;
import java.util.ArrayList;
import java.util.Comparator;
import java.util.Deque;
import java.util.HashMap;
import java.util.List;
import java.util.Map;
import java.util.NoSuchElementException;
import java.util.TreeMap;
import java.util.TreeSet;
import java.util.regex.Matcher;
import java.util.regex.Pattern;

/**
 * The document once more, written for plainness with texts and lists of the library, line by line and
 * unit by unit: what ContentsSetter answers is compared with it.
 */
final class Model {
    static final class Section {
        int id;
        int level;
        int length;
        boolean main;
        List<String> words;

        Section copy() {
            Section s = new Section();
            s.id = id;
            s.level = level;
            s.length = length;
            s.main = main;
            s.words = words;
            return s;
        }
    }

    static final class Book {
        int[] settings = {60, 40, 40, 2, 3, 1, 2, 3};
        boolean right;
        List<Section> sections = new ArrayList<>();
        Map<Integer, String> proofSettings;
        List<String> proofLines;

        Book copy() {
            Book b = new Book();
            b.settings = settings.clone();
            b.right = right;
            for (Section s : sections) {
                b.sections.add(s.copy());
            }
            b.proofSettings = proofSettings;
            b.proofLines = proofLines;
            return b;
        }

        List<Section> part(boolean main) {
            List<Section> part = new ArrayList<>();
            for (Section s : sections) {
                if (s.main == main) {
                    part.add(s);
                }
            }
            return part;
        }
    }

    static final class Line {
        int section;
        int start;
        List<String> tokens = new ArrayList<>();
        boolean last;
        List<Integer> dots = new ArrayList<>();
        String number = "";
        boolean overfull;

        int end() {
            return start + width(String.join(" ", tokens));
        }

        String text() {
            String text = " ".repeat(start) + String.join(" ", tokens);
            return (last ? text + " " + ".".repeat(dots.size()) + " " + number : text) + "\n";
        }
    }

    /** A book laid with so many pages of the table. */
    static final class Laid {
        Book book;
        int tablePages;
        int rounds;
        int mainBegin;
        int lastPage;
        int column;
        int limit;
        int[] pages;
        int[] bookPages;
        int[] linesOnPage;
        String[] numbers;
        List<List<Line>> entries = new ArrayList<>();
        List<Line> lines = new ArrayList<>();

        String entryText(int section) {
            StringBuilder text = new StringBuilder();
            for (Line line : entries.get(section)) {
                text.append(line.text());
            }
            return text.toString();
        }

        int linePage(int line) {
            return line / book.settings[1] + 1;
        }

        int overfull() {
            int found = 0;
            for (Line line : lines) {
                found += line.overfull ? 1 : 0;
            }
            return found;
        }
    }

    static final class ParseError extends RuntimeException {
        private static final long serialVersionUID = 1;
        final int code;
        final int position;

        ParseError(int code, int position) {
            this.code = code;
            this.position = position;
        }
    }

    String input = "";
    String output = "";
    int errorCode = 0;
    int errorPosition = -1;
    Book book = new Book();
    Deque<Book> earlier = new ArrayDeque<>();
    Laid laid = lay(book);
    int nextId = 0;

    // ---- units ----

    static int width(String text) {
        int width = 0;
        for (char c : text.toCharArray()) {
            width += "fijlrt1. ".indexOf(c) >= 0 ? 1 : "mw".indexOf(c) >= 0 ? 3 : 2;
        }
        return width;
    }

    static String roman(int number) {
        int[] values = {1000, 900, 500, 400, 100, 90, 50, 40, 10, 9, 5, 4, 1};
        String[] signs = {"m", "cm", "d", "cd", "c", "xc", "l", "xl", "x", "ix", "v", "iv", "i"};
        StringBuilder text = new StringBuilder();
        int rest = number;
        for (int i = 0; i < values.length; i++) {
            for (; rest >= values[i]; rest -= values[i]) {
                text.append(signs[i]);
            }
        }
        return text.toString();
    }

    // ---- places of sections ----

    static int parent(Book b, int section) {
        Section s = b.sections.get(section);
        for (int i = section - 1; i >= 0; i--) {
            Section other = b.sections.get(i);
            if (other.main == s.main && other.level < s.level) {
                return i;
            }
        }
        return -1;
    }

    static int ordinal(Book b, int section) {
        int ordinal = 0;
        for (int i = 0; i <= section; i++) {
            boolean samePart = b.sections.get(i).main == b.sections.get(section).main;
            if (samePart && parent(b, i) == parent(b, section)) {
                ordinal++;
            }
        }
        return ordinal;
    }

    static String label(Book b, int section) {
        int parent = parent(b, section);
        return (parent < 0 ? "" : label(b, parent) + ".") + ordinal(b, section);
    }

    static List<String> tokens(Book b, int section) {
        Section s = b.sections.get(section);
        List<String> tokens = new ArrayList<>(s.words);
        if (s.main) {
            tokens.set(0, label(b, section) + " " + tokens.get(0));
        }
        return tokens;
    }

    static boolean levelsStand(Book b) {
        int[] most = {1, 1};
        for (Section s : b.sections) {
            int part = s.main ? 1 : 0;
            if (s.level > most[part]) {
                return false;
            }
            most[part] = s.level + 1;
        }
        return true;
    }

    // ---- laying ----

    static Laid lay(Book b) {
        if (b.sections.isEmpty()) {
            return layWith(b, 0);
        }
        int taken = 1;
        TreeSet<Integer> had = new TreeSet<>();
        for (int round = 1; round <= 8; round++) {
            Laid l = layWith(b, taken);
            l.rounds = round;
            int found = (l.lines.size() + b.settings[1] - 1) / b.settings[1];
            if (found == taken) {
                return l;
            }
            had.add(found);
            taken = found;
        }
        Laid l = layWith(b, had.last());
        l.rounds = 8;
        return l;
    }

    static Laid layWith(Book b, int tablePages) {
        Laid l = new Laid();
        int n = b.sections.size();
        l.book = b;
        l.tablePages = tablePages;
        l.pages = new int[n];
        l.bookPages = new int[n];
        l.linesOnPage = new int[n];
        l.numbers = new String[n];
        int frontEnd = layPart(l, false, tablePages + 1) - 1;
        int begin = frontEnd + 1;
        if (b.right && begin % 2 == 0) {
            begin++;
        }
        int mainEnd = layPart(l, true, 1) - 1;
        l.mainBegin = mainEnd == 0 ? 0 : begin;
        l.lastPage = mainEnd == 0 ? frontEnd : begin + mainEnd - 1;
        for (int i = 0; i < n; i++) {
            boolean main = b.sections.get(i).main;
            l.bookPages[i] = main ? begin + l.pages[i] - 1 : l.pages[i];
            l.numbers[i] = main ? "" + l.pages[i] : roman(l.pages[i]);
            l.column = Math.max(l.column, width(l.numbers[i]));
        }
        l.limit = b.settings[0] - l.column - b.settings[5];
        for (int i = 0; i < n; i++) {
            layEntry(l, i);
        }
        return l;
    }

    /** Lays the lines of a part one by one; answers the page behind its last one. */
    static int layPart(Laid l, boolean main, int firstPage) {
        Book b = l.book;
        int perPage = b.settings[2];
        int page = firstPage;
        int line = 0;
        boolean any = false;
        for (int i = 0; i < b.sections.size(); i++) {
            Section s = b.sections.get(i);
            if (s.main != main) {
                continue;
            }
            any = true;
            if (line == perPage) {
                page++;
                line = 0;
            }
            if (s.level == 1) {
                if (line > 0) {
                    page++;
                    line = 0;
                }
                if (b.right && page % 2 == 0) {
                    page++;
                }
            } else if (perPage - line < 1 + 1) {
                page++;
                line = 0;
            }
            l.pages[i] = page;
            l.linesOnPage[i] = line;
            for (int k = 0; k < (s.level == 1 ? 3 : 1) + s.length; k++) {
                if (line == perPage) {
                    page++;
                    line = 0;
                }
                line++;
            }
        }
        return any ? page + 1 : firstPage;
    }

    static void layEntry(Laid l, int section) {
        Book b = l.book;
        int indent = b.settings[3] * (b.sections.get(section).level - 1);
        List<Line> entry = new ArrayList<>();
        for (String token : tokens(b, section)) {
            Line line = entry.isEmpty() ? null : entry.get(entry.size() - 1);
            if (line == null || line.start + width(String.join(" ", line.tokens) + " " + token) > l.limit) {
                line = new Line();
                line.section = section;
                line.start = entry.isEmpty() ? indent : indent + b.settings[4];
                entry.add(line);
            }
            line.tokens.add(token);
        }
        Line last = entry.get(entry.size() - 1);
        if (last.tokens.size() > 1 && dots(l, section, last).size() < b.settings[6]) {
            Line more = new Line();
            more.section = section;
            more.start = indent + b.settings[4];
            more.tokens.add(last.tokens.remove(last.tokens.size() - 1));
            entry.add(more);
            last = more;
        }
        last.last = true;
        last.dots = dots(l, section, last);
        last.number = l.numbers[section];
        for (Line line : entry) {
            line.overfull = line.end() > l.limit;
        }
        l.entries.add(entry);
        l.lines.addAll(entry);
    }

    static List<Integer> dots(Laid l, int section, Line line) {
        int[] s = l.book.settings;
        List<Integer> dots = new ArrayList<>();
        for (int x = 0; x < s[0]; x++) {
            boolean behind = x >= line.end() + s[5];
            boolean before = x + 1 <= s[0] - width(l.numbers[section]) - s[5];
            if (x % s[7] == 0 && behind && before) {
                dots.add(x);
            }
        }
        return dots;
    }

    static String units(int width, String number) {
        StringBuilder units = new StringBuilder();
        for (char c : number.toCharArray()) {
            units.append(String.valueOf(c).repeat(width("" + c)));
        }
        return " ".repeat(width - units.length()) + units;
    }

    static boolean collides(Laid l, int i) {
        if (i + 1 >= l.lines.size() || l.linePage(i) != l.linePage(i + 1)) {
            return false;
        }
        Line upper = l.lines.get(i);
        Line lower = l.lines.get(i + 1);
        List<Section> sections = l.book.sections;
        if (!upper.last || !lower.last || !sections.get(upper.section).main || !sections.get(lower.section).main) {
            return false;
        }
        String above = units(200, upper.number);
        String below = units(200, lower.number);
        for (int x = 0; x < 200; x++) {
            if ("34579".indexOf(above.charAt(x)) >= 0 && "68".indexOf(below.charAt(x)) >= 0) {
                return true;
            }
        }
        return false;
    }

    // ---- input ----

    int append(int a, int b, int c, int d, int e) {
        if (input.length() + 20 > 1100) {
            throw new IllegalStateException();
        }
        StringBuilder text = new StringBuilder(input);
        for (int four : new int[] {a, b, c, d, e}) {
            for (int shift = 24; shift >= 0; shift -= 8) {
                text.append((char) (four >> shift & 255));
            }
        }
        input = text.toString();
        return input.length();
    }

    void truncate(int length) {
        if (length < 0 || length > input.length()) {
            throw new IllegalArgumentException();
        }
        input = input.substring(0, length);
    }

    private Matcher tokens;
    private String token;
    private int tokenAt;
    private String parsed;

    private void next() {
        if (tokens.find()) {
            token = tokens.group();
            tokenAt = tokens.start();
        } else {
            token = "";
            tokenAt = parsed.length();
        }
    }

    private void fixed(String want) {
        if (!token.equals(want)) {
            throw new ParseError(1, tokenAt);
        }
        next();
    }

    private int number(int least, int most) {
        if (!token.matches("[0-9]+")) {
            throw new ParseError(1, tokenAt);
        }
        java.math.BigInteger value = new java.math.BigInteger(token);
        boolean small = value.compareTo(java.math.BigInteger.valueOf(least)) < 0;
        if (small || value.compareTo(java.math.BigInteger.valueOf(most)) > 0) {
            throw new ParseError(2, tokenAt);
        }
        next();
        return value.intValue();
    }

    private Book parse(String text) {
        parsed = text;
        tokens = Pattern.compile("[a-z]+|[0-9]+|[^ \n]", Pattern.DOTALL).matcher(text);
        next();
        Book b = new Book();
        fixed("book");
        fixed("width");
        b.settings[0] = number(20, 120);
        fixed("lines");
        b.settings[1] = number(2, 60);
        fixed("page");
        b.settings[2] = number(5, 99);
        fixed(";");
        TreeSet<String> seen = new TreeSet<>();
        while (!token.isEmpty()) {
            String first = token;
            if (!List.of("style", "right", "main", "section").contains(first)) {
                throw new ParseError(1, tokenAt);
            }
            if (first.equals("section")) {
                parseSection(b, seen.contains("main"));
                continue;
            }
            if (!seen.add(first)) {
                throw new ParseError(3, tokenAt);
            }
            next();
            if (first.equals("right")) {
                b.right = true;
            }
            if (first.equals("style")) {
                String[] names = {"indent", "hang", "gap", "dots", "grid"};
                for (int i = 0; i < 5; i++) {
                    fixed(names[i]);
                    b.settings[3 + i] = number(i == 4 ? 1 : 0, 9);
                }
            }
            fixed(";");
        }
        return b;
    }

    private void parseSection(Book b, boolean main) {
        if (b.sections.size() == 24) {
            throw new ParseError(4, tokenAt);
        }
        next();
        List<Section> part = b.part(main);
        int before = part.isEmpty() ? 0 : part.get(part.size() - 1).level;
        Section s = new Section();
        s.id = nextId++;
        s.main = main;
        s.level = number(1, Math.min(4, before + 1));
        fixed("lines");
        s.length = number(0, 500);
        s.words = new ArrayList<>();
        while (!token.equals(";")) {
            if (!token.matches("[a-z]{1,12}")) {
                throw new ParseError(1, tokenAt);
            }
            if (s.words.size() == 8) {
                throw new ParseError(4, tokenAt);
            }
            s.words.add(token);
            next();
        }
        if (s.words.isEmpty()) {
            throw new ParseError(1, tokenAt);
        }
        next();
        b.sections.add(s);
    }

    private List<String> title() {
        if (!input.matches("[ \n]*[a-z]{1,12}([ \n]+[a-z]{1,12}){0,7}[ \n]*")) {
            throw new IllegalArgumentException();
        }
        return List.of(input.replace('\n', ' ').trim().split(" +"));
    }

    private void keep() {
        earlier.addLast(book.copy());
        if (earlier.size() > 6) {
            earlier.removeFirst();
        }
    }

    private void relay() {
        laid = lay(book);
    }

    int load() {
        String text = input;
        input = "";
        Book b;
        try {
            b = parse(text);
        } catch (ParseError e) {
            errorCode = e.code;
            errorPosition = e.position;
            return -4;
        }
        errorCode = 0;
        errorPosition = -1;
        keep();
        book = b;
        relay();
        return b.sections.size();
    }

    // ---- questions ----

    private Section at(int section) {
        if (section < 0 || section >= book.sections.size()) {
            throw new IndexOutOfBoundsException();
        }
        return book.sections.get(section);
    }

    private Line lineAt(int line) {
        if (line < 0 || line >= laid.lines.size()) {
            throw new IndexOutOfBoundsException();
        }
        return laid.lines.get(line);
    }

    private Line lastLineAt(int line) {
        if (!lineAt(line).last) {
            throw new NoSuchElementException();
        }
        return lineAt(line);
    }

    private static void must(boolean stands) {
        if (!stands) {
            throw new IllegalArgumentException();
        }
    }

    int count(int what) {
        must(what >= 0 && what <= 7);
        return new int[] {book.sections.size(), book.part(false).size(), laid.lines.size(), laid.tablePages,
            laid.lastPage, laid.mainBegin, laid.column, laid.limit}[what];
    }

    int setting(int what) {
        must(what >= 0 && what <= 7);
        return book.settings[what];
    }

    int section(int section, int what) {
        Section s = at(section);
        must(what >= 0 && what <= 6);
        int children = 0;
        for (int i = 0; i < book.sections.size(); i++) {
            children += parent(book, i) == section ? 1 : 0;
        }
        return new int[] {s.level, s.length, s.main ? 1 : 0, s.words.size(), parent(book, section), children,
            ordinal(book, section)}[what];
    }

    int titleWidth(int section) {
        at(section);
        return width(String.join(" ", tokens(book, section)));
    }

    int page(int section) {
        at(section);
        return laid.pages[section];
    }

    int bookPage(int section) {
        at(section);
        return laid.bookPages[section];
    }

    int lineOnPage(int section) {
        at(section);
        return laid.linesOnPage[section];
    }

    int numberWidth(int section) {
        at(section);
        return width(laid.numbers[section]);
    }

    int findPage(int part, int page) {
        must(part == 0 || part == 1);
        for (int i = 0; i < book.sections.size(); i++) {
            if (book.sections.get(i).main == (part == 1) && laid.pages[i] == page) {
                return i;
            }
        }
        return -1;
    }

    int sectionAt(int page) {
        if (page < 1 || page > laid.lastPage) {
            throw new IndexOutOfBoundsException();
        }
        for (int i = book.sections.size() - 1; i >= 0; i--) {
            if (laid.bookPages[i] <= page) {
                return i;
            }
        }
        return -1;
    }

    int firstLine(int section) {
        at(section);
        return laid.lines.indexOf(laid.entries.get(section).get(0));
    }

    int lineCount(int section) {
        at(section);
        return laid.entries.get(section).size();
    }

    int line(int line, int what) {
        Line l = lineAt(line);
        must(what >= 0 && what <= 4);
        return new int[] {l.section, l.start, l.end(), l.tokens.size(), laid.linePage(line)}[what];
    }

    int dotCount(int line) {
        return lastLineAt(line).dots.size();
    }

    int firstDot(int line) {
        Line l = lastLineAt(line);
        return l.dots.isEmpty() ? -1 : l.dots.get(0);
    }

    int dotsAt(int unit) {
        must(unit >= 0);
        int found = 0;
        for (Line l : laid.lines) {
            found += l.dots.contains(unit) ? 1 : 0;
        }
        return found;
    }

    int isOverfull(int line) {
        return lineAt(line).overfull ? 1 : 0;
    }

    int overfullCount() {
        return laid.overfull();
    }

    int rounds() {
        return laid.rounds;
    }

    int collides(int line) {
        lineAt(line);
        return collides(laid, line) ? 1 : 0;
    }

    int collisions() {
        int found = 0;
        for (int i = 0; i < laid.lines.size(); i++) {
            found += collides(laid, i) ? 1 : 0;
        }
        return found;
    }

    private TreeMap<String, Integer> words() {
        TreeMap<String, Integer> words = new TreeMap<>();
        for (int i = 0; i < book.sections.size(); i++) {
            for (String word : book.sections.get(i).words) {
                words.merge(word, 1 << i, (x, y) -> x | y);
            }
        }
        return words;
    }

    int wordCount() {
        return words().size();
    }

    int wordSections(int word) {
        if (word < 0 || word >= words().size()) {
            throw new IndexOutOfBoundsException();
        }
        return new ArrayList<>(words().values()).get(word);
    }

    int findWord() {
        int found = new ArrayList<>(words().keySet()).indexOf(input);
        input = "";
        return found;
    }

    // ---- edits ----

    int setLength(int section, int lines) {
        int before = at(section).length;
        must(lines >= 0 && lines <= 500);
        keep();
        at(section).length = lines;
        relay();
        return before;
    }

    int setLevel(int section, int level) {
        int before = at(section).level;
        must(level >= 1 && level <= 4);
        Book trial = book.copy();
        trial.sections.get(section).level = level;
        must(levelsStand(trial));
        keep();
        at(section).level = level;
        relay();
        return before;
    }

    int setTitle(int section) {
        int before = at(section).words.size();
        List<String> title = title();
        keep();
        at(section).words = title;
        input = "";
        relay();
        return before;
    }

    int insert(int section, int level, int lines) {
        int n = book.sections.size();
        if (section < 0 || section > n) {
            throw new IndexOutOfBoundsException();
        }
        must(level >= 1 && level <= 4 && lines >= 0 && lines <= 500);
        Section s = new Section();
        s.id = nextId++;
        s.level = level;
        s.length = lines;
        s.words = title();
        s.main = n > 0 && at(Math.min(section, n - 1)).main;
        Book trial = book.copy();
        trial.sections.add(section, s);
        must(levelsStand(trial));
        if (n == 24) {
            throw new IllegalStateException();
        }
        keep();
        book.sections.add(section, s);
        input = "";
        relay();
        return n + 1;
    }

    int remove(int section) {
        Section s = at(section);
        keep();
        book.sections.remove(section);
        int removed = 1;
        while (section < book.sections.size() && at(section).main == s.main && at(section).level > s.level) {
            book.sections.remove(section);
            removed++;
        }
        relay();
        return removed;
    }

    int setWidth(int width) {
        must(width >= 20 && width <= 120);
        keep();
        int before = book.settings[0];
        book.settings[0] = width;
        relay();
        return before;
    }

    int setGrid(int grid) {
        must(grid >= 1 && grid <= 9);
        keep();
        int before = book.settings[7];
        book.settings[7] = grid;
        relay();
        return before;
    }

    int setRight(boolean right) {
        keep();
        int before = book.right ? 1 : 0;
        book.right = right;
        relay();
        return before;
    }

    // ---- proofs ----

    int proof() {
        int unread = Integer.bitCount(toRead());
        keep();
        book.proofSettings = new HashMap<>();
        book.proofLines = new ArrayList<>();
        for (int i = 0; i < book.sections.size(); i++) {
            book.proofSettings.put(at(i).id, laid.entryText(i));
        }
        for (Line line : laid.lines) {
            book.proofLines.add(line.text());
        }
        relay();
        return unread;
    }

    int toRead() {
        int set = 0;
        for (int i = 0; i < book.sections.size(); i++) {
            boolean read = book.proofSettings != null
                    && laid.entryText(i).equals(book.proofSettings.get(at(i).id));
            set |= read ? 0 : 1 << i;
        }
        return set;
    }

    int changedLines() {
        List<String> before = book.proofLines == null ? List.of() : book.proofLines;
        int changed = 0;
        for (int i = 0; i < Math.max(before.size(), laid.lines.size()); i++) {
            boolean both = i < before.size() && i < laid.lines.size();
            changed += both && before.get(i).equals(laid.lines.get(i).text()) ? 0 : 1;
        }
        return changed;
    }

    // ---- what would be ----

    int slack(int section) {
        at(section);
        for (int more = 1; more <= 99; more++) {
            Book trial = book.copy();
            trial.sections.get(section).length += more;
            if (!List.of(lay(trial).numbers).equals(List.of(laid.numbers))) {
                return more - 1;
            }
        }
        return 99;
    }

    int pagesIf(int section, int lines) {
        at(section);
        must(lines >= 0 && lines <= 500);
        Book trial = book.copy();
        trial.sections.get(section).length = lines;
        return lay(trial).lastPage;
    }

    private Laid layWide(int width) {
        Book trial = book.copy();
        trial.settings[0] = width;
        return lay(trial);
    }

    int leastWidth(int pages) {
        must(pages >= 1 && pages <= 20);
        for (int width = 20; width <= 120; width++) {
            if (layWide(width).tablePages <= pages) {
                return width;
            }
        }
        return -1;
    }

    int bestWidth() {
        List<int[]> all = new ArrayList<>();
        for (int width = 20; width <= 120; width++) {
            Laid l = layWide(width);
            all.add(new int[] {l.overfull(), l.lines.size(), width});
        }
        all.sort(Comparator.<int[]>comparingInt(x -> x[0]).thenComparingInt(x -> x[1]).thenComparingInt(x -> x[2]));
        return all.get(0)[2];
    }

    // ---- orders ----

    int crowded(int place) {
        must(place >= 0);
        TreeMap<Integer, Integer> begin = new TreeMap<>();
        for (int page : laid.bookPages) {
            begin.merge(page, 1, Integer::sum);
        }
        List<Integer> pages = new ArrayList<>(begin.keySet());
        pages.sort(Comparator.comparing((Integer page) -> -begin.get(page)));
        return place < pages.size() ? pages.get(place) : -1;
    }

    int longest(int place) {
        must(place >= 0);
        List<Integer> sections = new ArrayList<>();
        for (int i = 0; i < book.sections.size(); i++) {
            sections.add(i);
        }
        sections.sort(Comparator.comparing((Integer i) -> -titleWidth(i)));
        return place < sections.size() ? sections.get(place) : -1;
    }

    // ---- undo and output ----

    int undo() {
        if (earlier.isEmpty()) {
            throw new IllegalStateException();
        }
        book = earlier.removeLast();
        relay();
        return earlier.size();
    }

    int undoCount() {
        return earlier.size();
    }

    int writeLine(int line) {
        output = lineAt(line).text();
        return output.length();
    }

    int writeTable() {
        StringBuilder text = new StringBuilder();
        for (Line line : laid.lines) {
            text.append(line.text());
        }
        output = text.toString();
        return output.length();
    }

    int outputByte(int index) {
        if (index < 0 || index >= output.length()) {
            throw new IndexOutOfBoundsException();
        }
        return output.charAt(index);
    }
}
