import java.util.Arrays;

/** An engraver of music and an orchestra's library: README.md says how to use it. */
public final class Stavehouse {
    public static final int NONE = -1;
    public static final int SCORE = 5;

    private static final int INSTRUMENTS = 5;
    private static final int BOOKS = 6;
    private static final int DESKS = 6;
    private static final int STANDS = 3;
    private static final int MOST_BARS = 12;
    private static final int MOST_LENGTH = 32;
    private static final int MOST_NOTES = 8;
    private static final int MOST_PITCH = 60;
    private static final int MOST_COPIES = 16;
    private static final int MOST_SIGN = 9;
    private static final int MOST_HOW = 2;
    private static final int LEAST_PAPER = 80;
    private static final int MOST_PAPER = 500;
    private static final int MOST_PAGE_LINES = 6;

    /** What belongs to one instrument in one bar stands in one slot. */
    private static final int SLOTS = INSTRUMENTS * MOST_BARS;

    private final Score score;
    private final Book opened;
    private final Paper paper;
    private final Copy[] shelf;
    private final Desk[] desks;
    private int copyCount;
    private int concertCount;

    public Stavehouse() {
        score = new Score();
        opened = new Book(score);
        paper = new Paper(opened);
        shelf = new Copy[MOST_COPIES];
        for (int i = 0; i < MOST_COPIES; i++) {
            shelf[i] = new Copy(score);
        }
        desks = new Desk[DESKS];
        for (int i = 0; i < DESKS; i++) {
            desks[i] = new Desk();
        }
    }

    // ---- the score

    public int bar(int length) throws IllegalArgumentException, IllegalStateException {
        needValue(length, 1, MOST_LENGTH);
        if (score.barCount >= MOST_BARS) {
            throw new IllegalStateException("there are 12 bars");
        }
        return score.addBar(length);
    }

    public int note(int instrument, int bar, int length, int pitch)
            throws IndexOutOfBoundsException, IllegalArgumentException, IllegalStateException {
        int slot = needSlot(instrument, bar);
        needValue(length, 1, MOST_LENGTH);
        needValue(pitch, 0, MOST_PITCH);
        if (score.noteCounts[slot] >= MOST_NOTES) {
            throw new IllegalStateException("the instrument has 8 notes there");
        }
        if (score.filled(slot) + length > score.barLengths[bar]) {
            throw new IllegalStateException("the notes would be longer than the bar");
        }
        return score.addNote(slot, length, pitch);
    }

    public int mend(int instrument, int bar, int note, int pitch)
            throws IndexOutOfBoundsException, IllegalArgumentException {
        int slot = needSlot(instrument, bar);
        needIndex(note, score.noteCounts[slot]);
        needValue(pitch, 0, MOST_PITCH);
        return score.changePitch(slot, note, pitch);
    }

    public int empty(int instrument, int bar) throws IndexOutOfBoundsException {
        return score.takeNotes(needSlot(instrument, bar));
    }

    public int setPaper(int width, int lines) throws IllegalArgumentException {
        needValue(width, LEAST_PAPER, MOST_PAPER);
        needValue(lines, 1, MOST_PAGE_LINES);
        int before = paper.paperWidth;
        paper.paperWidth = width;
        paper.pageLines = lines;
        return before;
    }

    // ---- copies

    public int copy(int instrument) throws IndexOutOfBoundsException, IllegalStateException {
        needIndex(instrument, INSTRUMENTS);
        if (copyCount >= MOST_COPIES) {
            throw new IllegalStateException("there are 16 copies");
        }
        shelf[copyCount].instrument = instrument;
        copyCount++;
        return copyCount - 1;
    }

    public int lend(int copy, int desk) throws IndexOutOfBoundsException, IllegalStateException {
        needIndex(copy, copyCount);
        needIndex(desk, DESKS);
        Copy lent = shelf[copy];
        if (lent.isOut()) {
            throw new IllegalStateException("the copy is with a desk");
        }
        if (deskHasPart(desk, lent.instrument)) {
            throw new IllegalStateException("the desk has a copy of this instrument");
        }
        lent.desk = desk;
        lent.takeVersions();
        return copiesOut();
    }

    public int giveBack(int copy) throws IndexOutOfBoundsException, IllegalStateException {
        Copy given = needCopyOut(copy);
        int debts = given.countDebts();
        given.desk = NONE;
        return debts;
    }

    public int paste(int copy) throws IndexOutOfBoundsException, IllegalStateException {
        Copy pasted = needCopyOut(copy);
        int debts = pasted.countDebts();
        pasted.takeVersions();
        return debts;
    }

    public int mark(int copy, int bar, int sign)
            throws IndexOutOfBoundsException, IllegalArgumentException, IllegalStateException {
        needIndex(copy, copyCount);
        needIndex(bar, score.barCount);
        needValue(sign, 0, MOST_SIGN);
        Copy marked = needCopyOut(copy);
        if (marked.lacks(bar)) {
            throw new IllegalStateException("the copy lacks the bar");
        }
        int slot = slotOf(marked.instrument, bar);
        return desks[marked.desk].changeMark(slot, sign, marked.versionOf(bar));
    }

    public int bow(int copy, int bar, int note, int how)
            throws IndexOutOfBoundsException, IllegalArgumentException, IllegalStateException {
        needIndex(copy, copyCount);
        int slot = needSlot(shelf[copy].instrument, bar);
        needIndex(note, score.noteCounts[slot]);
        needValue(how, 0, MOST_HOW);
        Copy bowed = needCopyOut(copy);
        if (bowed.owes(bar)) {
            throw new IllegalStateException("the copy owes the bar");
        }
        return desks[bowed.desk].changeBowing(slot, note, how, score.barVersions[slot]);
    }

    public int play() throws IllegalStateException {
        int players = copiesOut();
        if (players == 0) {
            throw new IllegalStateException("no copy is with a desk");
        }
        if (anyCopyOwes()) {
            throw new IllegalStateException("a copy owes a bar");
        }
        concertCount++;
        return players;
    }

    // ---- what is asked: the score

    public int bars() {
        return score.barCount;
    }

    public int notes(int instrument, int bar) throws IndexOutOfBoundsException {
        return score.noteCounts[needSlot(instrument, bar)];
    }

    public int noteAt(int instrument, int bar, int note) throws IndexOutOfBoundsException {
        int slot = needSlot(instrument, bar);
        needIndex(note, score.noteCounts[slot]);
        return 100 * score.lengthAt(slot, note) + score.pitchAt(slot, note);
    }

    public int version(int instrument, int bar) throws IndexOutOfBoundsException {
        return score.barVersions[needSlot(instrument, bar)];
    }

    public int time(int bar) throws IndexOutOfBoundsException {
        needIndex(bar, score.barCount + 1);
        return score.barTimes[bar];
    }

    public int timeByBars(int bar) throws IndexOutOfBoundsException {
        needIndex(bar, score.barCount + 1);
        return score.countTime(bar);
    }

    // ---- what is asked: books

    public int items(int book) throws IndexOutOfBoundsException {
        openBook(book);
        return opened.itemCount;
    }

    public int itemOf(int book, int bar) throws IndexOutOfBoundsException {
        openBook(book);
        needIndex(bar, score.barCount);
        return opened.barItems[bar];
    }

    public int cue(int instrument, int bar) throws IndexOutOfBoundsException {
        needSlot(instrument, bar);
        return score.cuePlayer(instrument, bar);
    }

    public int width(int book, int item) throws IndexOutOfBoundsException {
        openBook(book);
        needIndex(item, opened.itemCount);
        return opened.widthOf(item, item + 1);
    }

    public int lines(int book) throws IndexOutOfBoundsException {
        breakBook(book);
        return paper.lineCount;
    }

    public int lineOf(int book, int bar) throws IndexOutOfBoundsException {
        breakBook(book);
        needIndex(bar, score.barCount);
        return paper.itemLines[opened.barItems[bar]];
    }

    public int cost(int book) throws IndexOutOfBoundsException {
        breakBook(book);
        return paper.leastCost();
    }

    public int costByAll(int book) throws IndexOutOfBoundsException {
        openBook(book);
        return paper.leastByTrying();
    }

    public int turns(int book) throws IndexOutOfBoundsException {
        breakBook(book);
        return paper.turnSum;
    }

    public int place(int book, int bar, int at) throws IndexOutOfBoundsException {
        breakBook(book);
        needIndex(bar, score.barCount);
        int spring = opened.drawSpring(bar, at);
        if (spring == NONE) {
            throw new IndexOutOfBoundsException("no spring begins there");
        }
        return paper.springAt(opened.barItems[bar], spring);
    }

    // ---- what is asked: copies

    public int copies() {
        return copyCount;
    }

    public int deskOf(int copy) throws IndexOutOfBoundsException {
        needIndex(copy, copyCount);
        return shelf[copy].desk;
    }

    public int has(int copy, int bar) throws IndexOutOfBoundsException {
        needIndex(copy, copyCount);
        needIndex(bar, score.barCount);
        return shelf[copy].versionOf(bar);
    }

    public int owed(int copy) throws IndexOutOfBoundsException {
        needIndex(copy, copyCount);
        return shelf[copy].countDebts();
    }

    public int markOf(int desk, int instrument, int bar) throws IndexOutOfBoundsException {
        needIndex(desk, DESKS);
        return desks[desk].signs[needSlot(instrument, bar)];
    }

    public int oldMarks(int desk) throws IndexOutOfBoundsException {
        needIndex(desk, DESKS);
        return desks[desk].countOldMarks(score);
    }

    public int clashes(int instrument) throws IndexOutOfBoundsException {
        needIndex(instrument, INSTRUMENTS);
        int sum = 0;
        for (int stand = 0; stand < STANDS; stand++) {
            sum += clashesAt(desks[2 * stand], desks[2 * stand + 1], instrument);
        }
        return sum;
    }

    public int concerts() {
        return concertCount;
    }

    // ---- what the calls have in common

    private static void needIndex(int index, int count) {
        if (index < 0 || index >= count) {
            throw new IndexOutOfBoundsException("there is no such number");
        }
    }

    private static void needValue(int value, int least, int most) {
        if (value < least || value > most) {
            throw new IllegalArgumentException("a value is out of range");
        }
    }

    private static int slotOf(int instrument, int bar) {
        return instrument * MOST_BARS + bar;
    }

    private int needSlot(int instrument, int bar) {
        needIndex(instrument, INSTRUMENTS);
        needIndex(bar, score.barCount);
        return slotOf(instrument, bar);
    }

    private Copy needCopyOut(int copy) {
        needIndex(copy, copyCount);
        Copy found = shelf[copy];
        if (!found.isOut()) {
            throw new IllegalStateException("the copy is at home");
        }
        return found;
    }

    private boolean deskHasPart(int desk, int instrument) {
        for (int i = 0; i < copyCount; i++) {
            if (shelf[i].desk == desk && shelf[i].instrument == instrument) {
                return true;
            }
        }
        return false;
    }

    private int copiesOut() {
        int out = 0;
        for (int i = 0; i < copyCount; i++) {
            if (shelf[i].isOut()) {
                out++;
            }
        }
        return out;
    }

    private boolean anyCopyOwes() {
        for (int i = 0; i < copyCount; i++) {
            if (shelf[i].countDebts() > 0) {
                return true;
            }
        }
        return false;
    }

    private int clashesAt(Desk one, Desk other, int instrument) {
        int sum = 0;
        for (int bar = 0; bar < score.barCount; bar++) {
            int slot = slotOf(instrument, bar);
            int version = score.barVersions[slot];
            for (int note = 0; note < score.noteCounts[slot]; note++) {
                int here = one.bowingAt(slot, note, version);
                int there = other.bowingAt(slot, note, version);
                if (here != 0 && there != 0 && here != there) {
                    sum++;
                }
            }
        }
        return sum;
    }

    private void openBook(int number) {
        needIndex(number, BOOKS);
        opened.gather(number);
    }

    private void breakBook(int number) {
        needIndex(number, BOOKS);
        opened.gather(number);
        paper.breakLines();
    }

    /** The bars and the notes that the instruments have in them. */
    private static final class Score {
        private int barCount;
        private final int[] barLengths = new int[MOST_BARS];
        private final int[] barTimes = new int[MOST_BARS + 1];
        private final int[] barVersions = new int[SLOTS];
        private final int[] noteCounts = new int[SLOTS];
        private final int[] noteLengths = new int[SLOTS * MOST_NOTES];
        private final int[] notePitches = new int[SLOTS * MOST_NOTES];

        int addBar(int length) {
            barLengths[barCount] = length;
            barTimes[barCount + 1] = barTimes[barCount] + length;
            barCount++;
            return barCount - 1;
        }

        int addNote(int slot, int length, int pitch) {
            int index = slot * MOST_NOTES + noteCounts[slot];
            noteLengths[index] = length;
            notePitches[index] = pitch;
            noteCounts[slot]++;
            barVersions[slot]++;
            return noteCounts[slot];
        }

        int changePitch(int slot, int note, int pitch) {
            int index = slot * MOST_NOTES + note;
            int before = notePitches[index];
            if (before != pitch) {
                notePitches[index] = pitch;
                barVersions[slot]++;
            }
            return before;
        }

        int takeNotes(int slot) {
            int before = noteCounts[slot];
            if (before > 0) {
                noteCounts[slot] = 0;
                barVersions[slot]++;
            }
            return before;
        }

        int lengthAt(int slot, int note) {
            return noteLengths[slot * MOST_NOTES + note];
        }

        int pitchAt(int slot, int note) {
            return notePitches[slot * MOST_NOTES + note];
        }

        int filled(int slot) {
            int sum = 0;
            for (int note = 0; note < noteCounts[slot]; note++) {
                sum += lengthAt(slot, note);
            }
            return sum;
        }

        int countTime(int bar) {
            int sum = 0;
            for (int i = 0; i < bar; i++) {
                sum += barLengths[i];
            }
            return sum;
        }

        boolean isSilent(int instrument, int bar) {
            int slot = slotOf(instrument, bar);
            for (int note = 0; note < noteCounts[slot]; note++) {
                if (pitchAt(slot, note) > 0) {
                    return false;
                }
            }
            return true;
        }

        /** The other instrument by which a bar of a part is drawn as a cue, or NONE. */
        int cuePlayer(int part, int bar) {
            boolean endsLongRest = bar >= 2 && bar + 1 < barCount
                    && isSilent(part, bar - 2) && isSilent(part, bar - 1)
                    && isSilent(part, bar) && !isSilent(part, bar + 1);
            if (!endsLongRest) {
                return NONE;
            }
            int player = NONE;
            int most = 0;
            for (int other = 0; other < INSTRUMENTS; other++) {
                int count = noteCounts[slotOf(other, bar)];
                if (other != part && count > most && !isSilent(other, bar)) {
                    player = other;
                    most = count;
                }
            }
            return player;
        }

        /** The silence of an instrument around the beginning of a bar. */
        int silenceAround(int instrument, int bar) {
            int silence = 0;
            for (int i = bar - 1; i >= 0; i--) {
                int atEnd = silenceAtEnd(instrument, i);
                silence += atEnd;
                if (atEnd < barLengths[i]) {
                    break;
                }
            }
            for (int i = bar; i < barCount; i++) {
                int atBeginning = silenceAtBeginning(instrument, i);
                silence += atBeginning;
                if (atBeginning < barLengths[i]) {
                    break;
                }
            }
            return silence;
        }

        private int silenceAtEnd(int instrument, int bar) {
            int slot = slotOf(instrument, bar);
            int at = 0;
            int lastSound = 0;
            for (int note = 0; note < noteCounts[slot]; note++) {
                at += lengthAt(slot, note);
                if (pitchAt(slot, note) > 0) {
                    lastSound = at;
                }
            }
            return barLengths[bar] - lastSound;
        }

        private int silenceAtBeginning(int instrument, int bar) {
            int slot = slotOf(instrument, bar);
            int at = 0;
            for (int note = 0; note < noteCounts[slot]; note++) {
                if (pitchAt(slot, note) > 0) {
                    return at;
                }
                at += lengthAt(slot, note);
            }
            return barLengths[bar];
        }
    }

    /** The springs of one item; the sums hold what is ahead of each spring, and at the end all. */
    private static final class Springs {
        private static final int REST_WIDTH = 24;
        private static final int REST_LEAST = 16;

        private int springCount;
        private final int[] starts = new int[MOST_LENGTH];
        private final int[] widthSums = new int[MOST_LENGTH + 1];
        private final int[] leastSums = new int[MOST_LENGTH + 1];

        /** How many instruments sound from a sixteenth on; NONE where there is no place. */
        private final int[] sounding = new int[MOST_LENGTH];

        /** Draws a bar by one instrument, for SCORE by all, or for NONE a rest that begins with it. */
        void draw(Score score, int drawer, int bar) {
            springCount = 0;
            if (drawer == NONE) {
                addSpring(0, REST_WIDTH, REST_LEAST);
                return;
            }
            Arrays.fill(sounding, NONE);
            for (int instrument = 0; instrument < INSTRUMENTS; instrument++) {
                if (drawer == SCORE || drawer == instrument) {
                    addPlaces(score, slotOf(instrument, bar), score.barLengths[bar]);
                }
            }
            addSprings(score.barLengths[bar]);
        }

        private void addPlaces(Score score, int slot, int length) {
            int at = 0;
            for (int note = 0; note < score.noteCounts[slot] && at < length; note++) {
                addPlace(at, score.pitchAt(slot, note) > 0);
                at += score.lengthAt(slot, note);
            }
            if (at < length) {
                addPlace(at, false);
            }
        }

        private void addPlace(int at, boolean sounds) {
            if (sounding[at] == NONE) {
                sounding[at] = 0;
            }
            if (sounds) {
                sounding[at]++;
            }
        }

        private void addSprings(int length) {
            for (int at = 0; at < length; at++) {
                if (sounding[at] != NONE) {
                    int least = 4 + sounding[at];
                    int width = naturalWidth(nextPlace(at, length) - at);
                    addSpring(at, Math.max(width, least), least);
                }
            }
        }

        private int nextPlace(int at, int length) {
            for (int next = at + 1; next < length; next++) {
                if (sounding[next] != NONE) {
                    return next;
                }
            }
            return length;
        }

        private static int naturalWidth(int length) {
            int width = 6;
            for (int left = length; left > 1; left = left / 2) {
                width += 3;
            }
            return width;
        }

        private void addSpring(int at, int width, int least) {
            starts[springCount] = at;
            widthSums[springCount + 1] = widthSums[springCount] + width;
            leastSums[springCount + 1] = leastSums[springCount] + least;
            springCount++;
        }

        int widthOfAll() {
            return widthSums[springCount];
        }

        int leastOfAll() {
            return leastSums[springCount];
        }

        /** The number of the spring that begins at a sixteenth, or NONE. */
        int springFrom(int at) {
            for (int spring = 0; spring < springCount; spring++) {
                if (starts[spring] == at) {
                    return spring;
                }
            }
            return NONE;
        }
    }

    /** The items of the book that was gathered last. */
    private static final class Book {
        private static final int ITEM_SPACE = 8;

        private final Score score;
        private final Springs springs = new Springs();
        private int number;
        private int itemCount;
        private final int[] firstBars = new int[MOST_BARS];
        private final int[] barItems = new int[MOST_BARS];

        /** By whom an item is drawn: an instrument, SCORE for all, NONE for a rest. */
        private final int[] drawers = new int[MOST_BARS];

        private final int[] springSums = new int[MOST_BARS + 1];
        private final int[] leastSums = new int[MOST_BARS + 1];

        Book(Score score) {
            this.score = score;
        }

        void gather(int book) {
            number = book;
            itemCount = 0;
            for (int bar = 0; bar < score.barCount; bar++) {
                int drawer = drawerOf(bar);
                boolean goesOn = drawer == NONE && itemCount > 0 && drawers[itemCount - 1] == NONE;
                if (!goesOn) {
                    addItem(bar, drawer);
                }
                barItems[bar] = itemCount - 1;
            }
        }

        private int drawerOf(int bar) {
            if (number == SCORE || !score.isSilent(number, bar)) {
                return number;
            }
            return score.cuePlayer(number, bar);
        }

        private void addItem(int bar, int drawer) {
            firstBars[itemCount] = bar;
            drawers[itemCount] = drawer;
            springs.draw(score, drawer, bar);
            springSums[itemCount + 1] = springSums[itemCount] + springs.widthOfAll();
            leastSums[itemCount + 1] = leastSums[itemCount] + springs.leastOfAll();
            itemCount++;
        }

        /** Draws the item of a bar; answers which of its springs begins there, or NONE. */
        int drawSpring(int bar, int at) {
            int item = barItems[bar];
            springs.draw(score, drawers[item], firstBars[item]);
            return firstBars[item] == bar ? springs.springFrom(at) : NONE;
        }

        /** The width of the items from one on and ahead of another. */
        int widthOf(int first, int end) {
            return ITEM_SPACE * (end - first) + springSums[end] - springSums[first];
        }

        int leastOf(int first, int end) {
            return ITEM_SPACE * (end - first) + leastSums[end] - leastSums[first];
        }
    }

    /** The paper, and the lines on it of the book that was gathered last. */
    private static final class Paper {
        private static final int SPACE_AHEAD = 4;
        private static final int EASY_TURN = 16;

        /** More than any way costs: a line of all items is far below 10000 wide. */
        private static final int NO_WAY = 1000000000;

        private final Book book;
        private int paperWidth = 200;
        private int pageLines = 3;

        /** What a turn ahead of an item costs; behind the last one there is none. */
        private final int[] turnCosts = new int[MOST_BARS + 1];

        /*
         * The best way to break the items from one on, if its first line is the first, second..
         * of a page: what it costs, how many lines it has, and where its first line ends.
         */
        private final int[][] costs = new int[MOST_BARS + 1][MOST_PAGE_LINES];
        private final int[][] lineCounts = new int[MOST_BARS + 1][MOST_PAGE_LINES];
        private final int[][] lineEnds = new int[MOST_BARS + 1][MOST_PAGE_LINES];

        private int lineCount;
        private int turnSum;
        private final int[] lineStarts = new int[MOST_BARS + 1];
        private final int[] itemLines = new int[MOST_BARS];

        Paper(Book book) {
            this.book = book;
        }

        void breakLines() {
            priceTurns();
            for (int onPage = 0; onPage < pageLines; onPage++) {
                costs[book.itemCount][onPage] = 0;
                lineCounts[book.itemCount][onPage] = 0;
            }
            for (int item = book.itemCount - 1; item >= 0; item--) {
                for (int onPage = 0; onPage < pageLines; onPage++) {
                    chooseLine(item, onPage);
                }
            }
            setLines();
        }

        private void priceTurns() {
            Arrays.fill(turnCosts, 0);
            if (book.number == SCORE) {
                return;
            }
            for (int item = 0; item < book.itemCount; item++) {
                int silence = book.score.silenceAround(book.number, book.firstBars[item]);
                turnCosts[item] = 100 * Math.max(0, EASY_TURN - silence);
            }
        }

        /** Tries the shortest line first and keeps the first of equal ways: it has the lesser row. */
        private void chooseLine(int item, int onPage) {
            int next = nextOnPage(onPage);
            costs[item][onPage] = NO_WAY;
            lineCounts[item][onPage] = 0;
            for (int end = item + 1; end <= book.itemCount; end++) {
                if (!mayBeLine(item, end)) {
                    break;
                }
                int cost = badness(item, end) + turnAhead(end, next) + costs[end][next];
                int count = 1 + lineCounts[end][next];
                if (cost < costs[item][onPage]
                        || cost == costs[item][onPage] && count < lineCounts[item][onPage]) {
                    costs[item][onPage] = cost;
                    lineCounts[item][onPage] = count;
                    lineEnds[item][onPage] = end;
                }
            }
        }

        private void setLines() {
            lineCount = lineCounts[0][0];
            turnSum = 0;
            int item = 0;
            int onPage = 0;
            for (int line = 0; line < lineCount; line++) {
                lineStarts[line] = item;
                int end = lineEnds[item][onPage];
                for (int i = item; i < end; i++) {
                    itemLines[i] = line;
                }
                onPage = nextOnPage(onPage);
                turnSum += turnAhead(end, onPage);
                item = end;
            }
            lineStarts[lineCount] = item;
        }

        private int nextOnPage(int onPage) {
            return onPage + 1 < pageLines ? onPage + 1 : 0;
        }

        private boolean mayBeLine(int first, int end) {
            return end - first == 1 || book.leastOf(first, end) <= paperWidth;
        }

        private int badness(int first, int end) {
            int more = book.widthOf(first, end) - paperWidth;
            if (more > 0) {
                return 2 * more * 2 * more;
            }
            return end == book.itemCount ? 0 : more * more;
        }

        /** What it costs to come to an item, if its line is the first, second.. of a page. */
        private int turnAhead(int item, int onPage) {
            return onPage == 0 ? turnCosts[item] : 0;
        }

        int leastCost() {
            return costs[0][0];
        }

        int leastByTrying() {
            priceTurns();
            return leastOfAllWays(0, 0, 0);
        }

        /** The depth is how many lines are ahead; there are never more of them than bars. */
        private int leastOfAllWays(int item, int onPage, int depth) {
            if (item >= book.itemCount || depth >= MOST_BARS) {
                return 0;
            }
            int next = nextOnPage(onPage);
            int least = NO_WAY;
            for (int end = item + 1; end <= book.itemCount; end++) {
                if (mayBeLine(item, end)) {
                    int line = badness(item, end) + turnAhead(end, next);
                    least = Math.min(least, line + leastOfAllWays(end, next, depth + 1));
                }
            }
            return least;
        }

        /** Where a spring of an item is; the item is the one that the book drew last. */
        int springAt(int item, int spring) {
            int line = itemLines[item];
            int first = lineStarts[line];
            int end = lineStarts[line + 1];
            int ahead = book.springSums[item] - book.springSums[first] + book.springs.widthSums[spring];
            int leastAhead = book.leastSums[item] - book.leastSums[first] + book.springs.leastSums[spring];
            int at = Book.ITEM_SPACE * (item - first) + SPACE_AHEAD + ahead;
            int more = book.widthOf(first, end) - paperWidth;
            if (more > 0) {
                return at - shrunkAhead(first, end, more, ahead - leastAhead);
            }
            return end == book.itemCount ? at : at + stretchedAhead(first, end, -more, ahead);
        }

        private int shrunkAhead(int first, int end, int more, int aboveAhead) {
            int above = book.widthOf(first, end) - book.leastOf(first, end);
            return above > 0 ? Math.min(more, above) * aboveAhead / above : 0;
        }

        private int stretchedAhead(int first, int end, int lack, int ahead) {
            int all = book.springSums[end] - book.springSums[first];
            return all > 0 ? lack * ahead / all : 0;
        }
    }

    /** A copy of a part; its versions count only while it is with a desk. */
    private static final class Copy {
        private final Score score;
        private int instrument;
        private int desk = NONE;
        private final int[] versions = new int[MOST_BARS];

        Copy(Score score) {
            this.score = score;
        }

        boolean isOut() {
            return desk != NONE;
        }

        void takeVersions() {
            for (int bar = 0; bar < MOST_BARS; bar++) {
                versions[bar] = bar < score.barCount ? scoreVersion(bar) : NONE;
            }
        }

        private int scoreVersion(int bar) {
            return score.barVersions[slotOf(instrument, bar)];
        }

        int versionOf(int bar) {
            return isOut() ? versions[bar] : scoreVersion(bar);
        }

        boolean lacks(int bar) {
            return versionOf(bar) == NONE;
        }

        boolean owes(int bar) {
            return versionOf(bar) != scoreVersion(bar);
        }

        int countDebts() {
            int sum = 0;
            for (int bar = 0; bar < score.barCount; bar++) {
                if (owes(bar)) {
                    sum++;
                }
            }
            return sum;
        }
    }

    /** What a desk keeps for itself, slot by slot. */
    private static final class Desk {
        private final int[] signs = new int[SLOTS];
        private final int[] markVersions = new int[SLOTS];

        /** Two bits for each note. A slot needs one version: what older ones told never counts again. */
        private final int[] bowings = new int[SLOTS];
        private final int[] bowVersions = new int[SLOTS];

        int changeMark(int slot, int sign, int version) {
            int before = signs[slot];
            signs[slot] = sign;
            markVersions[slot] = version;
            return before;
        }

        int countOldMarks(Score score) {
            int sum = 0;
            for (int slot = 0; slot < SLOTS; slot++) {
                if (signs[slot] != 0 && markVersions[slot] != score.barVersions[slot]) {
                    sum++;
                }
            }
            return sum;
        }

        int bowingAt(int slot, int note, int version) {
            return bowVersions[slot] == version ? bowings[slot] >> 2 * note & 3 : 0;
        }

        int changeBowing(int slot, int note, int how, int version) {
            int before = bowingAt(slot, note, version);
            if (bowVersions[slot] != version) {
                bowVersions[slot] = version;
                bowings[slot] = 0;
            }
            bowings[slot] = bowings[slot] & ~(3 << 2 * note) | how << 2 * note;
            return before;
        }
    }
}
