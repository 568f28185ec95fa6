import java.util.NoSuchElementException;

/** A setter of tables of contents in the old style; ../shared/DOC.md says what each method answers. */
public final class ContentsSetter {
    public static final int NONE = -1;
    public static final int PARSE_ERROR = -4;

    private static final int MOST_INPUT = 1100;
    private static final int APPENDED = 20;
    private static final int MOST_SECTIONS = 24;
    private static final int MOST_LEVEL = 4;
    private static final int MOST_LENGTH = 500;
    private static final int MOST_WORDS = 8;
    private static final int MOST_LETTERS = 12;
    private static final int ALL_WORDS = MOST_SECTIONS * MOST_WORDS;
    private static final int LEAST_WIDTH = 20;
    private static final int MOST_WIDTH = 120;
    private static final int MOST_GRID = 9;
    private static final int MOST_ROUNDS = 8;
    private static final int MOST_SLACK = 99;
    private static final int MOST_ASKED_PAGES = 20;
    private static final int MOST_UNDO = 6;

    // An entry has at most 8 lines, each with at most 36 spaces and a newline before and behind its
    // tokens; its words, label, dots and number add some 250 signs at most.
    private static final int MOST_ENTRY_BYTES = 600;

    private static final int CHAPTER_HEAD = 3;
    private static final int OTHER_HEAD = 1;

    private static final int FRONT = 0;
    private static final int MAIN = 1;

    // The settings have the numbers that setting() gives them.
    private static final int WIDTH = 0;
    private static final int TABLE_LINES = 1;
    private static final int TEXT_LINES = 2;
    private static final int INDENT = 3;
    private static final int HANG = 4;
    private static final int GAP = 5;
    private static final int DOTS = 6;
    private static final int GRID = 7;
    private static final int SETTINGS = 8;

    private final Text input = new Text(MOST_INPUT);
    private final Text output = new Text(MOST_SECTIONS * MOST_ENTRY_BYTES);
    private final Parser parser = new Parser();
    private int parseErrorCode = 0;
    private int parseErrorPosition = NONE;

    private final State now = new State();
    private final State[] earlier = new State[MOST_UNDO];
    private int nextEarlier = 0;
    private int undoable = 0;

    private final Layout layout = new Layout();
    private final Words words = new Words();

    // What would be is laid here, so that the questions about it leave the book and its layout alone.
    private final Book trial = new Book();
    private final Layout trialLayout = new Layout();
    private final Text typed = new Text(MOST_ENTRY_BYTES);
    private final Text typedBefore = new Text(MOST_ENTRY_BYTES);

    public ContentsSetter() {
        for (int i = 0; i < earlier.length; i++) {
            earlier[i] = new State();
        }
        layout.layAnew(now.book);
    }

    // ---- the input and its text ----

    public int append(int a, int b, int c, int d, int e) throws IllegalStateException {
        if (input.length() + APPENDED > MOST_INPUT) {
            throw new IllegalStateException("the input buffer is full");
        }
        input.putFour(a);
        input.putFour(b);
        input.putFour(c);
        input.putFour(d);
        input.putFour(e);
        return input.length();
    }

    public void truncate(int length) throws IllegalArgumentException {
        if (length < 0 || length > input.length()) {
            throw new IllegalArgumentException("no such length");
        }
        input.cut(length);
    }

    public int load() {
        boolean parsed = parser.readBook(input, trial);
        input.cut(0);
        parseErrorCode = parser.failure;
        parseErrorPosition = parser.failurePosition;
        if (!parsed) {
            return PARSE_ERROR;
        }
        keepForUndo();
        now.book.take(trial);
        now.proofMade = false;
        layout.layAnew(now.book);
        return now.book.sections;
    }

    public int errorCode() {
        return parseErrorCode;
    }

    public int errorPosition() {
        return parseErrorPosition;
    }

    // ---- the book ----

    public int count(int what) throws IllegalArgumentException {
        switch (what) {
            case 0:
                return now.book.sections;
            case 1:
                return now.book.front;
            case 2:
                return layout.table.lines;
            case 3:
                return layout.tablePages;
            case 4:
                return layout.pages.lastPage;
            case 5:
                return layout.pages.mainBegin;
            case 6:
                return layout.table.column;
            case 7:
                return layout.table.limit;
            default:
                throw new IllegalArgumentException("no such count");
        }
    }

    public int setting(int what) throws IllegalArgumentException {
        if (what < 0 || what >= SETTINGS) {
            throw new IllegalArgumentException("no such setting");
        }
        return now.book.settings.at(what);
    }

    public boolean isRight() {
        return now.book.right;
    }

    public int section(int section, int what) throws IndexOutOfBoundsException, IllegalArgumentException {
        checkSection(section);
        switch (what) {
            case 0:
                return now.book.levels.at(section);
            case 1:
                return now.book.lengths.at(section);
            case 2:
                return now.book.partOf(section);
            case 3:
                return now.book.wordCounts.at(section);
            case 4:
                return layout.measures.parents.at(section);
            case 5:
                return layout.measures.children.at(section);
            case 6:
                return layout.measures.ordinals.at(section);
            default:
                throw new IllegalArgumentException("no such value of a section");
        }
    }

    public int titleWidth(int section) throws IndexOutOfBoundsException {
        checkSection(section);
        return layout.measures.titleWidths.at(section);
    }

    // ---- pages ----

    public int page(int section) throws IndexOutOfBoundsException {
        checkSection(section);
        return layout.pages.numbers.at(section);
    }

    public int bookPage(int section) throws IndexOutOfBoundsException {
        checkSection(section);
        return layout.pages.bookNumbers.at(section);
    }

    public int lineOnPage(int section) throws IndexOutOfBoundsException {
        checkSection(section);
        return layout.pages.headLines.at(section);
    }

    public int numberWidth(int section) throws IndexOutOfBoundsException {
        checkSection(section);
        return layout.pages.numberWidths.at(section);
    }

    public int findPage(int part, int page) throws IllegalArgumentException {
        if (part != FRONT && part != MAIN) {
            throw new IllegalArgumentException("no such part");
        }
        for (int i = now.book.partBegin(part); i < now.book.partEnd(part); i++) {
            if (layout.pages.numbers.at(i) == page) {
                return i;
            }
        }
        return NONE;
    }

    public int sectionAt(int page) throws IndexOutOfBoundsException {
        if (page < 1 || page > layout.pages.lastPage) {
            throw new IndexOutOfBoundsException("no such page of the book");
        }
        int latest = NONE;
        for (int i = 0; i < now.book.sections; i++) {
            if (layout.pages.bookNumbers.at(i) <= page) {
                latest = i;
            }
        }
        return latest;
    }

    // ---- the table ----

    public int firstLine(int section) throws IndexOutOfBoundsException {
        checkSection(section);
        return layout.table.firstLines.at(section);
    }

    public int lineCount(int section) throws IndexOutOfBoundsException {
        checkSection(section);
        return layout.table.lineCounts.at(section);
    }

    public int line(int line, int what) throws IndexOutOfBoundsException, IllegalArgumentException {
        checkLine(line);
        switch (what) {
            case 0:
                return layout.table.entries.at(line);
            case 1:
                return layout.table.starts.at(line);
            case 2:
                return layout.table.ends.at(line);
            case 3:
                return layout.table.tokenCounts.at(line);
            case 4:
                return 1 + quotient(line, now.book.settings.at(TABLE_LINES));
            default:
                throw new IllegalArgumentException("no such value of a line");
        }
    }

    public int dotCount(int line) throws IndexOutOfBoundsException, NoSuchElementException {
        checkLine(line);
        checkLastLine(line);
        return layout.table.dotCounts.at(layout.table.entries.at(line));
    }

    public int firstDot(int line) throws IndexOutOfBoundsException, NoSuchElementException {
        checkLine(line);
        checkLastLine(line);
        return layout.table.firstDots.at(layout.table.entries.at(line));
    }

    public int dotsAt(int unit) throws IllegalArgumentException {
        if (unit < 0) {
            throw new IllegalArgumentException("no such unit");
        }
        int found = 0;
        for (int i = 0; i < now.book.sections; i++) {
            if (layout.table.hasDotAt(i, unit, now.book.settings.at(GRID))) {
                found++;
            }
        }
        return found;
    }

    public boolean isOverfull(int line) throws IndexOutOfBoundsException {
        checkLine(line);
        return layout.table.isBeyondLimit(line);
    }

    public int overfullCount() {
        return layout.table.linesBeyondLimit();
    }

    public int rounds() {
        return layout.roundsLaid;
    }

    public boolean collides(int line) throws IndexOutOfBoundsException {
        checkLine(line);
        return layout.touchesNext(now.book, line);
    }

    public int collisions() {
        int found = 0;
        for (int i = 0; i < layout.table.lines; i++) {
            if (layout.touchesNext(now.book, i)) {
                found++;
            }
        }
        return found;
    }

    // ---- words ----

    public int wordCount() {
        words.gather(now.book);
        return words.size;
    }

    public int wordSections(int word) throws IndexOutOfBoundsException {
        words.gather(now.book);
        if (word < 0 || word >= words.size) {
            throw new IndexOutOfBoundsException("no such word");
        }
        return words.sets.at(word);
    }

    public int findWord() {
        long sought = input.wordBetween(0, input.length());
        input.cut(0);
        words.gather(now.book);
        return words.indexOf(sought);
    }

    // ---- edits ----

    public int setLength(int section, int lines) throws IndexOutOfBoundsException, IllegalArgumentException {
        checkSection(section);
        checkLength(lines);
        keepForUndo();
        int before = now.book.lengths.at(section);
        now.book.lengths.put(section, lines);
        layout.layAnew(now.book);
        return before;
    }

    public int setLevel(int section, int level) throws IndexOutOfBoundsException, IllegalArgumentException {
        checkSection(section);
        checkLevel(level);
        if (!now.book.levelStands(now.book.partOf(section), section, section + 1, level)) {
            throw new IllegalArgumentException("a section would have a level that cannot be");
        }
        keepForUndo();
        int before = now.book.levels.at(section);
        now.book.levels.put(section, level);
        layout.layAnew(now.book);
        return before;
    }

    public int setTitle(int section) throws IndexOutOfBoundsException, IllegalArgumentException {
        checkSection(section);
        checkTitle();
        keepForUndo();
        int before = now.book.wordCounts.at(section);
        now.book.entitle(section, parser.title, parser.titleWords);
        input.cut(0);
        layout.layAnew(now.book);
        return before;
    }

    public int insert(int section, int level, int lines)
            throws IndexOutOfBoundsException, IllegalArgumentException, IllegalStateException {
        if (section < 0 || section > now.book.sections) {
            throw new IndexOutOfBoundsException("no such number for a section");
        }
        checkLevel(level);
        checkLength(lines);
        checkTitle();
        int part = now.book.partForNew(section);
        if (!now.book.levelStands(part, section, section, level)) {
            throw new IllegalArgumentException("a section would have a level that cannot be");
        }
        if (now.book.sections >= MOST_SECTIONS) {
            throw new IllegalStateException("no more sections");
        }
        keepForUndo();
        now.book.open(section, part);
        now.book.levels.put(section, level);
        now.book.lengths.put(section, lines);
        now.book.entitle(section, parser.title, parser.titleWords);
        input.cut(0);
        layout.layAnew(now.book);
        return now.book.sections;
    }

    public int remove(int section) throws IndexOutOfBoundsException {
        checkSection(section);
        keepForUndo();
        int removed = now.book.cutBranch(section);
        layout.layAnew(now.book);
        return removed;
    }

    public int setWidth(int width) throws IllegalArgumentException {
        if (width < LEAST_WIDTH || width > MOST_WIDTH) {
            throw new IllegalArgumentException("no such width");
        }
        int before = changeSetting(WIDTH, width);
        layout.layAnew(now.book);
        return before;
    }

    public int setGrid(int grid) throws IllegalArgumentException {
        if (grid < 1 || grid > MOST_GRID) {
            throw new IllegalArgumentException("no such grid");
        }
        int before = changeSetting(GRID, grid);
        layout.layAnew(now.book);
        return before;
    }

    public boolean setRight(boolean right) {
        keepForUndo();
        boolean before = now.book.right;
        now.book.right = right;
        layout.layAnew(now.book);
        return before;
    }

    // ---- proofs ----

    public int proof() {
        trialLayout.layAnew(now.proofed);
        int unread = Integer.bitCount(sectionsToRead());
        keepForUndo();
        now.keepProof();
        return unread;
    }

    public int toRead() {
        trialLayout.layAnew(now.proofed);
        return sectionsToRead();
    }

    public int changedLines() {
        if (!now.proofMade) {
            return layout.table.lines;
        }
        trialLayout.layAnew(now.proofed);
        int shared = Math.min(layout.table.lines, trialLayout.table.lines);
        int changed = Math.max(layout.table.lines, trialLayout.table.lines) - shared;
        for (int i = 0; i < shared; i++) {
            layout.typeLines(typed, now.book, i, i + 1);
            trialLayout.typeLines(typedBefore, now.proofed, i, i + 1);
            if (!typed.isLike(typedBefore)) {
                changed++;
            }
        }
        return changed;
    }

    // ---- what would be ----

    public int slack(int section) throws IndexOutOfBoundsException {
        checkSection(section);
        startTrial();
        int length = now.book.lengths.at(section);
        for (int more = 1; more <= MOST_SLACK; more++) {
            trial.lengths.put(section, length + more);
            trialLayout.lay(trial);
            if (!trialLayout.pages.hasNumbersOf(layout.pages, now.book.sections)) {
                return more - 1;
            }
        }
        return MOST_SLACK;
    }

    public int pagesIf(int section, int lines) throws IndexOutOfBoundsException, IllegalArgumentException {
        checkSection(section);
        checkLength(lines);
        startTrial();
        trial.lengths.put(section, lines);
        trialLayout.lay(trial);
        return trialLayout.pages.lastPage;
    }

    public int leastWidth(int pages) throws IllegalArgumentException {
        if (pages < 1 || pages > MOST_ASKED_PAGES) {
            throw new IllegalArgumentException("no such number of pages");
        }
        startTrial();
        for (int width = LEAST_WIDTH; width <= MOST_WIDTH; width++) {
            trial.settings.put(WIDTH, width);
            trialLayout.lay(trial);
            if (trialLayout.tablePages <= pages) {
                return width;
            }
        }
        return NONE;
    }

    public int bestWidth() {
        startTrial();
        int best = LEAST_WIDTH;
        int fewestOverfull = ALL_WORDS + 1;
        int fewestLines = ALL_WORDS + 1;
        for (int width = LEAST_WIDTH; width <= MOST_WIDTH; width++) {
            trial.settings.put(WIDTH, width);
            trialLayout.lay(trial);
            int overfull = trialLayout.table.linesBeyondLimit();
            int lines = trialLayout.table.lines;
            if (overfull < fewestOverfull || overfull == fewestOverfull && lines < fewestLines) {
                best = width;
                fewestOverfull = overfull;
                fewestLines = lines;
            }
        }
        return best;
    }

    // ---- orders ----

    public int crowded(int place) throws IllegalArgumentException {
        checkPlace(place);
        for (int i = 0; i < now.book.sections; i++) {
            if (layout.pages.isFirstOnPage(i) && pagesBefore(i) == place) {
                return layout.pages.bookNumbers.at(i);
            }
        }
        return NONE;
    }

    public int longest(int place) throws IllegalArgumentException {
        checkPlace(place);
        for (int i = 0; i < now.book.sections; i++) {
            if (titlesBefore(i) == place) {
                return i;
            }
        }
        return NONE;
    }

    // ---- undo ----

    public int undo() throws IllegalStateException {
        if (undoable <= 0) {
            throw new IllegalStateException("nothing to undo");
        }
        nextEarlier = (nextEarlier + MOST_UNDO - 1) % MOST_UNDO;
        undoable--;
        State kept = earlierAt(nextEarlier);
        if (kept != null) {
            now.take(kept);
        }
        layout.layAnew(now.book);
        return undoable;
    }

    public int undoCount() {
        return undoable;
    }

    // ---- the output ----

    public int writeLine(int line) throws IndexOutOfBoundsException {
        checkLine(line);
        layout.typeLines(output, now.book, line, line + 1);
        return output.length();
    }

    public int writeTable() {
        layout.typeLines(output, now.book, 0, layout.table.lines);
        return output.length();
    }

    public int outputByte(int index) throws IndexOutOfBoundsException {
        if (index < 0 || index >= output.length()) {
            throw new IndexOutOfBoundsException("no such byte of the output");
        }
        return output.at(index);
    }

    // ---- what the methods of the face share ----

    private void checkSection(int section) {
        if (section < 0 || section >= now.book.sections) {
            throw new IndexOutOfBoundsException("no such section");
        }
    }

    private void checkLine(int line) {
        if (line < 0 || line >= layout.table.lines) {
            throw new IndexOutOfBoundsException("no such line of the table");
        }
    }

    private void checkLastLine(int line) {
        if (!layout.table.isLastLine(line)) {
            throw new NoSuchElementException("not the last line of its entry");
        }
    }

    private void checkLevel(int level) {
        if (level < 1 || level > MOST_LEVEL) {
            throw new IllegalArgumentException("no such level");
        }
    }

    private void checkLength(int lines) {
        if (lines < 0 || lines > MOST_LENGTH) {
            throw new IllegalArgumentException("no such length of a section");
        }
    }

    private void checkTitle() {
        if (!parser.readTitle(input)) {
            throw new IllegalArgumentException("the input is not a title");
        }
    }

    private void checkPlace(int place) {
        if (place < 0) {
            throw new IllegalArgumentException("no such place");
        }
    }

    private int changeSetting(int which, int value) {
        keepForUndo();
        int before = now.book.settings.at(which);
        now.book.settings.put(which, value);
        return before;
    }

    private State earlierAt(int index) {
        return index >= 0 && index < earlier.length ? earlier[index] : null;
    }

    private void keepForUndo() {
        State kept = earlierAt(nextEarlier);
        if (kept != null) {
            kept.take(now);
        }
        nextEarlier = (nextEarlier + 1) % MOST_UNDO;
        undoable = Math.min(undoable + 1, MOST_UNDO);
    }

    /** Widths and lengths change neither levels nor titles, so a trial is measured only here. */
    private void startTrial() {
        trial.take(now.book);
        trialLayout.measures.measure(trial);
    }

    /** A proof keeps the book and not its texts: laid again it gives the same texts. */
    private int sectionsToRead() {
        int set = 0;
        for (int i = 0; i < now.book.sections; i++) {
            int origin = now.book.origins.at(i);
            layout.typeLines(typed, now.book, layout.table.firstLines.at(i), layout.table.lineBehind(i));
            trialLayout.typeLines(typedBefore, now.proofed,
                    trialLayout.table.firstLines.at(origin), trialLayout.table.lineBehind(origin));
            if (!now.proofMade || origin == NONE || !typed.isLike(typedBefore)) {
                set |= 1 << i;
            }
        }
        return set;
    }

    private int pagesBefore(int section) {
        int before = 0;
        int beginners = layout.pages.beginners(section, now.book.sections);
        for (int i = 0; i < now.book.sections; i++) {
            int others = layout.pages.beginners(i, now.book.sections);
            boolean earlierPage = layout.pages.bookNumbers.at(i) < layout.pages.bookNumbers.at(section);
            if (layout.pages.isFirstOnPage(i) && (others > beginners || others == beginners && earlierPage)) {
                before++;
            }
        }
        return before;
    }

    private int titlesBefore(int section) {
        int before = 0;
        int width = layout.measures.titleWidths.at(section);
        for (int i = 0; i < now.book.sections; i++) {
            int other = layout.measures.titleWidths.at(i);
            if (other > width || other == width && i < section) {
                before++;
            }
        }
        return before;
    }

    /** What is divided here is never divided by 0; the test says so to the machine. */
    private static int quotient(int dividend, int divisor) {
        return divisor > 0 ? dividend / divisor : 0;
    }

    private static int quotientUp(int dividend, int divisor) {
        return divisor > 0 ? (dividend + divisor - 1) / divisor : 0;
    }

    private static int signWidth(int sign) {
        switch (sign) {
            case 'f':
            case 'i':
            case 'j':
            case 'l':
            case 'r':
            case 't':
            case '1':
            case '.':
            case ' ':
                return 1;
            case 'm':
            case 'w':
                return 3;
            default:
                return 2;
        }
    }

    private static int arabicWidth(int number) {
        int width = 0;
        for (int rest = number; rest > 0; rest /= 10) {
            width += signWidth('0' + rest % 10);
        }
        return width;
    }

    private static int romanWidth(int number) {
        int hundreds = romanFigureWidth(number / 100 % 10, signWidth('c'), signWidth('d'), signWidth('m'));
        int tens = romanFigureWidth(number / 10 % 10, signWidth('x'), signWidth('l'), signWidth('c'));
        int ones = romanFigureWidth(number % 10, signWidth('i'), signWidth('v'), signWidth('x'));
        return number / 1000 * signWidth('m') + hundreds + tens + ones;
    }

    private static int romanFigureWidth(int figure, int one, int five, int ten) {
        if (figure == 9) {
            return one + ten;
        }
        if (figure == 4) {
            return one + five;
        }
        return (figure >= 5 ? five : 0) + figure % 5 * one;
    }

    /** A row of numbers that looks at each index, so that the machine never throws. */
    private static final class Row {
        private final int[] cells;

        Row(int length) {
            cells = new int[Math.max(length, 0)];
        }

        int at(int index) {
            return index >= 0 && index < cells.length ? cells[index] : 0;
        }

        void put(int index, int value) {
            if (index >= 0 && index < cells.length) {
                cells[index] = value;
            }
        }

        void add(int index, int value) {
            if (index >= 0 && index < cells.length) {
                cells[index] += value;
            }
        }

        void take(Row other) {
            System.arraycopy(other.cells, 0, cells, 0, Math.min(cells.length, other.cells.length));
        }

        void move(int from, int to, int howMany) {
            if (howMany > 0 && from >= 0 && to >= 0 && howMany <= cells.length - Math.max(from, to)) {
                System.arraycopy(cells, from, cells, to, howMany);
            }
        }
    }

    /**
     * A row of words, each in one number: five bits a letter, the first letter highest. So the
     * order of the numbers is the alphabetical one.
     */
    private static final class WordRow {
        static final int LETTER_BITS = 5;
        static final int LETTER_MASK = 31;
        static final int FIRST_SHIFT = LETTER_BITS * (MOST_LETTERS - 1);
        static final long NO_WORD = 0;

        private final long[] cells;

        WordRow(int length) {
            cells = new long[Math.max(length, 0)];
        }

        long at(int index) {
            return index >= 0 && index < cells.length ? cells[index] : NO_WORD;
        }

        void put(int index, long word) {
            if (index >= 0 && index < cells.length) {
                cells[index] = word;
            }
        }

        void take(WordRow other) {
            System.arraycopy(other.cells, 0, cells, 0, Math.min(cells.length, other.cells.length));
        }

        void move(int from, int to, int howMany) {
            if (howMany > 0 && from >= 0 && to >= 0 && howMany <= cells.length - Math.max(from, to)) {
                System.arraycopy(cells, from, cells, to, howMany);
            }
        }

        /** The letter at this place as 1 to 26; 0 behind the word's end. */
        static int letterOf(long word, int place) {
            return (int) (word >> (FIRST_SHIFT - LETTER_BITS * place)) & LETTER_MASK;
        }

        static int widthOf(long word) {
            int width = 0;
            for (int i = 0; i < MOST_LETTERS && letterOf(word, i) != 0; i++) {
                width += signWidth('a' - 1 + letterOf(word, i));
            }
            return width;
        }
    }

    /** Bytes up to a greatest length; the buffers and the texts that are compared. */
    private static final class Text {
        private final byte[] bytes;
        private int used = 0;

        Text(int most) {
            bytes = new byte[Math.max(most, 0)];
        }

        int length() {
            return used;
        }

        int at(int index) {
            return index >= 0 && index < used && index < bytes.length ? bytes[index] : 0;
        }

        void put(int sign) {
            if (used >= 0 && used < bytes.length) {
                bytes[used] = (byte) sign;
                used++;
            }
        }

        void cut(int length) {
            used = length;
        }

        void putFour(int four) {
            put(four >> 24);
            put(four >> 16);
            put(four >> 8);
            put(four);
        }

        void putTimes(int sign, int times) {
            for (int i = 0; i < times; i++) {
                put(sign);
            }
        }

        void putWord(long word) {
            for (int i = 0; i < MOST_LETTERS && WordRow.letterOf(word, i) != 0; i++) {
                put('a' - 1 + WordRow.letterOf(word, i));
            }
        }

        void putArabic(int number) {
            int power = 1;
            while (power < 1_000_000_000 && quotient(number, power) >= 10) {
                power *= 10;
            }
            for (; power > 0; power /= 10) {
                put('0' + quotient(number, power) % 10);
            }
        }

        void putRoman(int number) {
            putTimes('m', number / 1000);
            putRomanFigure(number / 100 % 10, 'c', 'd', 'm');
            putRomanFigure(number / 10 % 10, 'x', 'l', 'c');
            putRomanFigure(number % 10, 'i', 'v', 'x');
        }

        private void putRomanFigure(int figure, char one, char five, char ten) {
            if (figure == 9) {
                put(one);
                put(ten);
            } else if (figure == 4) {
                put(one);
                put(five);
            } else {
                if (figure >= 5) {
                    put(five);
                }
                for (int i = figure % 5; i > 0; i--) {
                    put(one);
                }
            }
        }

        /** The bytes between these places as a word; NO_WORD if they are not one of 1 to 12 letters. */
        long wordBetween(int from, int to) {
            if (to - from > MOST_LETTERS) {
                return WordRow.NO_WORD;
            }
            long word = WordRow.NO_WORD;
            for (int i = from; i < to; i++) {
                long letter = at(i) - 'a' + 1;
                if (letter < 1 || letter > 26) {
                    return WordRow.NO_WORD;
                }
                word |= letter << (WordRow.FIRST_SHIFT - WordRow.LETTER_BITS * (i - from));
            }
            return word;
        }

        boolean isLike(Text other) {
            if (used != other.used) {
                return false;
            }
            for (int i = 0; i < used; i++) {
                if (at(i) != other.at(i)) {
                    return false;
                }
            }
            return true;
        }
    }

    /** What a text or the edits say of a book; all else follows from it. */
    private static final class Book {
        final Row settings = new Row(SETTINGS);
        boolean right;
        int sections;
        int front;
        final Row levels = new Row(MOST_SECTIONS);
        final Row lengths = new Row(MOST_SECTIONS);
        final Row wordCounts = new Row(MOST_SECTIONS);
        final WordRow titles = new WordRow(ALL_WORDS);

        // The number that a section had at the latest proof, NONE if it was added since.
        final Row origins = new Row(MOST_SECTIONS);

        Book() {
            empty();
        }

        void empty() {
            settings.put(WIDTH, 60);
            settings.put(TABLE_LINES, 40);
            settings.put(TEXT_LINES, 40);
            settings.put(INDENT, 2);
            settings.put(HANG, 3);
            settings.put(GAP, 1);
            settings.put(DOTS, 2);
            settings.put(GRID, 3);
            right = false;
            sections = 0;
            front = 0;
        }

        void take(Book other) {
            settings.take(other.settings);
            right = other.right;
            sections = other.sections;
            front = other.front;
            levels.take(other.levels);
            lengths.take(other.lengths);
            wordCounts.take(other.wordCounts);
            titles.take(other.titles);
            origins.take(other.origins);
        }

        int partOf(int section) {
            return section < front ? FRONT : MAIN;
        }

        int partBegin(int part) {
            return part == FRONT ? 0 : front;
        }

        int partEnd(int part) {
            return part == FRONT ? front : sections;
        }

        /** The part into which a new section with this number comes. */
        int partForNew(int section) {
            return section < front || front == sections ? FRONT : MAIN;
        }

        int greatestLevel(int part, int section) {
            return section == partBegin(part) ? 1 : Math.min(levels.at(section - 1) + 1, MOST_LEVEL);
        }

        /** True if a section with this number may have this level, with the section next behind it. */
        boolean levelStands(int part, int section, int next, int level) {
            boolean nextStands = next >= partEnd(part) || levels.at(next) <= level + 1;
            return nextStands && level <= greatestLevel(part, section);
        }

        void entitle(int section, WordRow title, int howMany) {
            wordCounts.put(section, howMany);
            for (int i = 0; i < howMany; i++) {
                titles.put(section * MOST_WORDS + i, title.at(i));
            }
        }

        void open(int section, int part) {
            moveSections(section, section + 1, sections - section);
            origins.put(section, NONE);
            sections++;
            if (part == FRONT) {
                front++;
            }
        }

        int cutBranch(int section) {
            int part = partOf(section);
            int behind = section + 1;
            while (behind < partEnd(part) && levels.at(behind) > levels.at(section)) {
                behind++;
            }
            moveSections(behind, section, sections - behind);
            int removed = behind - section;
            sections -= removed;
            if (part == FRONT) {
                front -= removed;
            }
            return removed;
        }

        private void moveSections(int from, int to, int howMany) {
            levels.move(from, to, howMany);
            lengths.move(from, to, howMany);
            wordCounts.move(from, to, howMany);
            origins.move(from, to, howMany);
            titles.move(from * MOST_WORDS, to * MOST_WORDS, howMany * MOST_WORDS);
        }
    }

    /** All that undo() restores. */
    private static final class State {
        final Book book = new Book();
        final Book proofed = new Book();
        boolean proofMade = false;

        void take(State other) {
            book.take(other.book);
            proofed.take(other.proofed);
            proofMade = other.proofMade;
        }

        void keepProof() {
            for (int i = 0; i < book.sections; i++) {
                book.origins.put(i, i);
            }
            proofed.take(book);
            proofMade = true;
        }
    }

    /** Reads a text token by token; each part of it is true, or false with the failure kept. */
    private static final class Parser {
        private static final int END = 0;
        private static final int WORD = 1;
        private static final int NUMBER = 2;
        private static final int SYMBOL = 3;
        private static final int BLANK = 4;

        private static final int CANNOT_STAND = 1;
        private static final int OUT_OF_RANGE = 2;
        private static final int SECOND_ONE = 3;
        private static final int TOO_MANY = 4;

        private static final int HUGE = 100_000;

        int failure = 0;
        int failurePosition = NONE;
        final WordRow title = new WordRow(MOST_WORDS);
        int titleWords = 0;

        private Text text = new Text(0);
        private int kind = END;
        private int begin = 0;
        private int end = 0;
        private int value = 0;
        private boolean styleSeen = false;
        private boolean rightSeen = false;
        private boolean mainSeen = false;

        boolean readBook(Text from, Book book) {
            book.empty();
            styleSeen = false;
            rightSeen = false;
            mainSeen = false;
            start(from);
            if (!bookStatement(book)) {
                return false;
            }
            // Each statement has a token at least, so the length of the text is bound enough.
            for (int i = 0; i < from.length() && kind != END; i++) {
                if (!statement(book)) {
                    return false;
                }
            }
            return true;
        }

        boolean readTitle(Text from) {
            start(from);
            return titleOf() && kind == END;
        }

        private void start(Text from) {
            text = from;
            failure = 0;
            failurePosition = NONE;
            end = 0;
            advance();
        }

        private static int kindOf(int sign) {
            if (sign >= 'a' && sign <= 'z') {
                return WORD;
            }
            if (sign >= '0' && sign <= '9') {
                return NUMBER;
            }
            return sign == ' ' || sign == '\n' ? BLANK : SYMBOL;
        }

        private void advance() {
            begin = end;
            while (begin < text.length() && kindOf(text.at(begin)) == BLANK) {
                begin++;
            }
            kind = begin < text.length() ? kindOf(text.at(begin)) : END;
            int most = kind == SYMBOL ? begin + 1 : text.length();
            end = begin;
            value = 0;
            while (end < most && kindOf(text.at(end)) == kind) {
                value = kind == NUMBER ? Math.min(value * 10 + text.at(end) - '0', HUGE) : 0;
                end++;
            }
        }

        private boolean fail(int code) {
            failure = code;
            failurePosition = begin;
            return false;
        }

        private boolean isAt(String word) {
            if (kind != WORD || end - begin != word.length()) {
                return false;
            }
            for (int i = 0; i < word.length(); i++) {
                if (text.at(begin + i) != word.charAt(i)) {
                    return false;
                }
            }
            return true;
        }

        private boolean semicolon() {
            if (kind != SYMBOL || text.at(begin) != ';') {
                return fail(CANNOT_STAND);
            }
            advance();
            return true;
        }

        /** Reads a word and the number behind it, which it puts into a row. */
        private boolean number(String word, int least, int most, Row into, int index) {
            if (!isAt(word)) {
                return fail(CANNOT_STAND);
            }
            advance();
            if (kind != NUMBER) {
                return fail(CANNOT_STAND);
            }
            if (value < least || value > most) {
                return fail(OUT_OF_RANGE);
            }
            into.put(index, value);
            advance();
            return true;
        }

        private boolean bookStatement(Book book) {
            if (!isAt("book")) {
                return fail(CANNOT_STAND);
            }
            advance();
            return number("width", LEAST_WIDTH, MOST_WIDTH, book.settings, WIDTH)
                    && number("lines", 2, 60, book.settings, TABLE_LINES)
                    && number("page", 5, 99, book.settings, TEXT_LINES)
                    && semicolon();
        }

        private boolean statement(Book book) {
            if (isAt("style")) {
                return styleStatement(book);
            }
            if (isAt("right")) {
                return rightStatement(book);
            }
            if (isAt("main")) {
                return mainStatement();
            }
            if (isAt("section")) {
                return sectionStatement(book);
            }
            return fail(CANNOT_STAND);
        }

        private boolean styleStatement(Book book) {
            if (styleSeen) {
                return fail(SECOND_ONE);
            }
            styleSeen = true;
            advance();
            return number("indent", 0, 9, book.settings, INDENT)
                    && number("hang", 0, 9, book.settings, HANG)
                    && number("gap", 0, 9, book.settings, GAP)
                    && number("dots", 0, 9, book.settings, DOTS)
                    && number("grid", 1, MOST_GRID, book.settings, GRID)
                    && semicolon();
        }

        private boolean rightStatement(Book book) {
            if (rightSeen) {
                return fail(SECOND_ONE);
            }
            rightSeen = true;
            book.right = true;
            advance();
            return semicolon();
        }

        private boolean mainStatement() {
            if (mainSeen) {
                return fail(SECOND_ONE);
            }
            mainSeen = true;
            advance();
            return semicolon();
        }

        private boolean sectionStatement(Book book) {
            if (book.sections >= MOST_SECTIONS) {
                return fail(TOO_MANY);
            }
            int section = book.sections;
            int part = mainSeen ? MAIN : FRONT;
            boolean stands = number("section", 1, book.greatestLevel(part, section), book.levels, section)
                    && number("lines", 0, MOST_LENGTH, book.lengths, section)
                    && titleOf();
            if (!stands) {
                return false;
            }
            book.open(section, part);
            book.entitle(section, title, titleWords);
            return semicolon();
        }

        private boolean titleOf() {
            titleWords = 0;
            for (int i = 0; i <= MOST_WORDS && kind == WORD; i++) {
                if (end - begin > MOST_LETTERS) {
                    return fail(CANNOT_STAND);
                }
                if (titleWords >= MOST_WORDS) {
                    return fail(TOO_MANY);
                }
                title.put(titleWords, text.wordBetween(begin, end));
                titleWords++;
                advance();
            }
            return titleWords > 0 || fail(CANNOT_STAND);
        }
    }

    /** What follows from the levels and titles of a book alone. */
    private static final class Measures {
        final Row parents = new Row(MOST_SECTIONS);
        final Row children = new Row(MOST_SECTIONS);
        final Row ordinals = new Row(MOST_SECTIONS);
        final Row labelWidths = new Row(MOST_SECTIONS);
        final Row tokenWidths = new Row(ALL_WORDS);
        final Row titleWidths = new Row(MOST_SECTIONS);

        void measure(Book book) {
            for (int i = 0; i < book.sections; i++) {
                findPlace(book, i);
                measureLabel(book, i);
                measureTitle(book, i);
            }
        }

        private void findPlace(Book book, int section) {
            int begin = book.partBegin(book.partOf(section));
            int parent = section - 1;
            while (parent >= begin && book.levels.at(parent) >= book.levels.at(section)) {
                parent--;
            }
            parent = parent < begin ? NONE : parent;
            int ordinal = 1;
            for (int i = begin; i < section; i++) {
                if (parents.at(i) == parent) {
                    ordinal++;
                }
            }
            parents.put(section, parent);
            children.put(section, 0);
            children.add(parent, 1);
            ordinals.put(section, ordinal);
        }

        private void measureLabel(Book book, int section) {
            int width = 0;
            if (book.partOf(section) == MAIN) {
                int parent = parents.at(section);
                int before = parent == NONE ? 0 : labelWidths.at(parent) + signWidth('.');
                width = before + arabicWidth(ordinals.at(section));
            }
            labelWidths.put(section, width);
        }

        private void measureTitle(Book book, int section) {
            int whole = 0;
            for (int i = 0; i < book.wordCounts.at(section); i++) {
                int token = section * MOST_WORDS + i;
                int width = WordRow.widthOf(book.titles.at(token));
                if (i == 0 && labelWidths.at(section) > 0) {
                    width += labelWidths.at(section) + signWidth(' ');
                }
                tokenWidths.put(token, width);
                whole += width + (i == 0 ? 0 : signWidth(' '));
            }
            titleWidths.put(section, whole);
        }

        /** The ordinal number of the section's ancestor of this level, itself for its own. */
        int ordinalAt(Book book, int section, int level) {
            int ancestor = section;
            for (int i = book.levels.at(section); i > level; i--) {
                ancestor = parents.at(ancestor);
            }
            return ordinals.at(ancestor);
        }
    }

    /** The pages of the sections and of the book, with a table of so many pages. */
    private static final class Pages {
        final Row numbers = new Row(MOST_SECTIONS);
        final Row bookNumbers = new Row(MOST_SECTIONS);
        final Row headLines = new Row(MOST_SECTIONS);
        final Row numberWidths = new Row(MOST_SECTIONS);
        int mainBegin;
        int lastPage;

        void lay(Book book, int tablePages) {
            int frontEnd = tablePages + layPart(book, FRONT, tablePages);
            int begin = 1 + pagesBeforeChapter(frontEnd, 0, book.right);
            int mainPages = layPart(book, MAIN, 0);
            mainBegin = mainPages > 0 ? begin : 0;
            lastPage = mainPages > 0 ? begin + mainPages - 1 : frontEnd;
            for (int i = 0; i < book.sections; i++) {
                int number = numbers.at(i);
                boolean inFront = book.partOf(i) == FRONT;
                bookNumbers.put(i, inFront ? number : begin + number - 1);
                numberWidths.put(i, inFront ? romanWidth(number) : arabicWidth(number));
            }
        }

        /** The part's own numbers begin behind the page number before; answers how many pages it has. */
        private int layPart(Book book, int part, int before) {
            int perPage = book.settings.at(TEXT_LINES);
            int lines = 0;
            for (int i = book.partBegin(part); i < book.partEnd(part); i++) {
                if (book.levels.at(i) == 1) {
                    lines = perPage * pagesBeforeChapter(quotientUp(lines, perPage), before, book.right);
                } else if (perPage * quotientUp(lines, perPage) - lines < OTHER_HEAD + 1) {
                    lines = perPage * quotientUp(lines, perPage);
                }
                int fullPages = quotient(lines, perPage);
                numbers.put(i, before + fullPages + 1);
                headLines.put(i, lines - perPage * fullPages);
                lines += (book.levels.at(i) == 1 ? CHAPTER_HEAD : OTHER_HEAD) + book.lengths.at(i);
            }
            return quotientUp(lines, perPage);
        }

        private static int pagesBeforeChapter(int pagesUsed, int before, boolean right) {
            boolean evenNext = (before + pagesUsed + 1) % 2 == 0;
            return right && evenNext ? pagesUsed + 1 : pagesUsed;
        }

        boolean hasNumbersOf(Pages other, int sections) {
            for (int i = 0; i < sections; i++) {
                if (numbers.at(i) != other.numbers.at(i)) {
                    return false;
                }
            }
            return true;
        }

        boolean isFirstOnPage(int section) {
            return section == 0 || bookNumbers.at(section - 1) != bookNumbers.at(section);
        }

        /** How many of these sections begin on the page of this one. */
        int beginners(int section, int sections) {
            int found = 0;
            for (int i = 0; i < sections; i++) {
                if (bookNumbers.at(i) == bookNumbers.at(section)) {
                    found++;
                }
            }
            return found;
        }
    }

    /** The lines of the table. */
    private static final class Table {
        int column;
        int limit;
        int lines;
        final Row entries = new Row(ALL_WORDS);
        final Row starts = new Row(ALL_WORDS);
        final Row ends = new Row(ALL_WORDS);
        final Row tokenCounts = new Row(ALL_WORDS);
        final Row firstTokens = new Row(ALL_WORDS);
        final Row firstLines = new Row(MOST_SECTIONS);
        final Row lineCounts = new Row(MOST_SECTIONS);
        final Row firstDots = new Row(MOST_SECTIONS);
        final Row dotCounts = new Row(MOST_SECTIONS);

        void lay(Book book, Measures measures, Pages pages) {
            column = 0;
            for (int i = 0; i < book.sections; i++) {
                column = Math.max(column, pages.numberWidths.at(i));
            }
            limit = book.settings.at(WIDTH) - column - book.settings.at(GAP);
            lines = 0;
            for (int i = 0; i < book.sections; i++) {
                firstLines.put(i, lines);
                layTokens(book, measures, i);
                layDots(book, i, pages.numberWidths.at(i));
                if (dotCounts.at(i) < book.settings.at(DOTS) && tokenCounts.at(lines - 1) > 1) {
                    breakLastToken(book, measures, i);
                    layDots(book, i, pages.numberWidths.at(i));
                }
                lineCounts.put(i, lines - firstLines.at(i));
            }
        }

        private static int firstStart(Book book, int section) {
            return book.settings.at(INDENT) * (book.levels.at(section) - 1);
        }

        private void layTokens(Book book, Measures measures, int section) {
            int start = firstStart(book, section);
            for (int i = 0; i < book.wordCounts.at(section); i++) {
                int width = measures.tokenWidths.at(section * MOST_WORDS + i);
                int last = lines - 1;
                int end = ends.at(last) + signWidth(' ') + width;
                if (i == 0) {
                    openLine(section, start, i, width);
                } else if (end <= limit) {
                    ends.put(last, end);
                    tokenCounts.add(last, 1);
                } else {
                    openLine(section, start + book.settings.at(HANG), i, width);
                }
            }
        }

        private void openLine(int section, int start, int token, int width) {
            entries.put(lines, section);
            starts.put(lines, start);
            ends.put(lines, start + width);
            tokenCounts.put(lines, 1);
            firstTokens.put(lines, token);
            lines++;
        }

        private void breakLastToken(Book book, Measures measures, int section) {
            int token = book.wordCounts.at(section) - 1;
            int width = measures.tokenWidths.at(section * MOST_WORDS + token);
            ends.add(lines - 1, -width - signWidth(' '));
            tokenCounts.add(lines - 1, -1);
            openLine(section, firstStart(book, section) + book.settings.at(HANG), token, width);
        }

        /** The dots of the last line laid so far. */
        private void layDots(Book book, int section, int numberWidth) {
            int gap = book.settings.at(GAP);
            int grid = book.settings.at(GRID);
            int first = quotientUp(ends.at(lines - 1) + gap, grid) * grid;
            int last = book.settings.at(WIDTH) - numberWidth - gap - 1;
            boolean none = first > last;
            firstDots.put(section, none ? NONE : first);
            dotCounts.put(section, none ? 0 : quotient(last - first, grid) + 1);
        }

        boolean hasDotAt(int section, int unit, int grid) {
            int fromFirst = unit - firstDots.at(section);
            int steps = quotient(fromFirst, grid);
            return fromFirst >= 0 && steps < dotCounts.at(section) && steps * grid == fromFirst;
        }

        boolean isLastLine(int line) {
            int section = entries.at(line);
            return line == lineBehind(section) - 1;
        }

        /** The line behind the last one of a section's entry. */
        int lineBehind(int section) {
            return firstLines.at(section) + lineCounts.at(section);
        }

        boolean isBeyondLimit(int line) {
            return ends.at(line) > limit;
        }

        int linesBeyondLimit() {
            int found = 0;
            for (int i = 0; i < lines; i++) {
                if (isBeyondLimit(i)) {
                    found++;
                }
            }
            return found;
        }
    }

    /** The whole book laid: the pages follow from the table, and the table from the pages. */
    private static final class Layout {
        final Measures measures = new Measures();
        final Pages pages = new Pages();
        final Table table = new Table();
        int tablePages;
        int roundsLaid;

        void layAnew(Book book) {
            measures.measure(book);
            lay(book);
        }

        /** Lays a book that has been measured. */
        void lay(Book book) {
            // A book without sections settles at once, with no pages of the table and no round.
            roundsLaid = 0;
            tablePages = Math.min(book.sections, 1);
            int greatest = 0;
            for (int i = 0; i < MOST_ROUNDS; i++) {
                pages.lay(book, tablePages);
                table.lay(book, measures, pages);
                roundsLaid += Math.min(book.sections, 1);
                int found = quotientUp(table.lines, book.settings.at(TABLE_LINES));
                if (found == tablePages) {
                    return;
                }
                greatest = Math.max(greatest, found);
                tablePages = found;
            }
            tablePages = greatest;
            pages.lay(book, tablePages);
            table.lay(book, measures, pages);
        }

        /** True if a line and the next one collide. */
        boolean touchesNext(Book book, int line) {
            int next = line + 1;
            int perPage = book.settings.at(TABLE_LINES);
            if (next >= table.lines || quotient(line, perPage) != quotient(next, perPage)) {
                return false;
            }
            if (!endsMainEntry(book, line) || !endsMainEntry(book, next)) {
                return false;
            }
            int upper = pages.numbers.at(table.entries.at(line));
            int lower = pages.numbers.at(table.entries.at(next));
            return (unitsOf(upper, false) & unitsOf(lower, true)) != 0;
        }

        private boolean endsMainEntry(Book book, int line) {
            return table.isLastLine(line) && book.partOf(table.entries.at(line)) == MAIN;
        }

        /** A bit for each unit, counted from the right edge, with a figure above or below the line. */
        private static int unitsOf(int number, boolean above) {
            int units = 0;
            int unit = 0;
            for (int rest = number; rest > 0; rest /= 10) {
                int figure = rest % 10;
                int width = signWidth('0' + figure);
                boolean isAbove = figure == 6 || figure == 8;
                boolean isBelow = figure >= 3 && !isAbove;
                if (above ? isAbove : isBelow) {
                    units |= ((1 << width) - 1) << unit;
                }
                unit += width;
            }
            return units;
        }

        void typeLines(Text out, Book book, int first, int behind) {
            out.cut(0);
            for (int i = first; i < behind; i++) {
                typeLine(out, book, i);
            }
        }

        private void typeLine(Text out, Book book, int line) {
            int section = table.entries.at(line);
            int first = table.firstTokens.at(line);
            out.putTimes(' ', table.starts.at(line));
            for (int i = first; i < first + table.tokenCounts.at(line); i++) {
                if (i > first) {
                    out.put(' ');
                }
                if (i == 0 && book.partOf(section) == MAIN) {
                    typeLabel(out, book, section);
                }
                out.putWord(book.titles.at(section * MOST_WORDS + i));
            }
            if (table.isLastLine(line)) {
                out.put(' ');
                out.putTimes('.', table.dotCounts.at(section));
                out.put(' ');
                if (book.partOf(section) == FRONT) {
                    out.putRoman(pages.numbers.at(section));
                } else {
                    out.putArabic(pages.numbers.at(section));
                }
            }
            out.put('\n');
        }

        private void typeLabel(Text out, Book book, int section) {
            for (int i = 1; i <= book.levels.at(section); i++) {
                if (i > 1) {
                    out.put('.');
                }
                out.putArabic(measures.ordinalAt(book, section, i));
            }
            out.put(' ');
        }
    }

    /** The different words of all titles in alphabetical order. */
    private static final class Words {
        final WordRow sorted = new WordRow(ALL_WORDS);
        final Row sets = new Row(ALL_WORDS);
        int size = 0;

        void gather(Book book) {
            size = 0;
            for (int i = 0; i < book.sections; i++) {
                for (int j = 0; j < book.wordCounts.at(i); j++) {
                    note(book.titles.at(i * MOST_WORDS + j), 1 << i);
                }
            }
        }

        private void note(long word, int set) {
            int place = 0;
            while (place < size && sorted.at(place) < word) {
                place++;
            }
            if (place == size || sorted.at(place) != word) {
                sorted.move(place, place + 1, size - place);
                sets.move(place, place + 1, size - place);
                sorted.put(place, word);
                sets.put(place, 0);
                size++;
            }
            sets.put(place, sets.at(place) | set);
        }

        int indexOf(long word) {
            for (int i = 0; i < size; i++) {
                if (sorted.at(i) == word) {
                    return i;
                }
            }
            return NONE;
        }
    }
}
