/** Promises 20 to 29: items, springs, lines, turns and places, with numbers worked out by hand. */
public final class BooksTest {
    private static final Check CHECK = new Check();

    /** Bars of one length in which instrument 0 has one note as long as the bar: 23 wide, 13 at least. */
    private static Stavehouse fullBars(int count) {
        Stavehouse x = new Stavehouse();
        for (int i = 0; i < count; i++) {
            x.bar(8);
            x.note(0, i, 8, 20);
        }
        return x;
    }

    private static void notes(Stavehouse x, int instrument, int bar, int count, int pitch) {
        for (int i = 0; i < count; i++) {
            x.note(instrument, bar, 1, pitch);
        }
    }

    private static void noBars() {
        Stavehouse x = new Stavehouse();
        for (int b = 0; b <= 5; b++) {
            int book = b;
            CHECK.due("items of nothing", x.items(book), 0);
            CHECK.due("lines of nothing", x.lines(book), 0);
            CHECK.due("cost of nothing", x.cost(book), 0);
            CHECK.due("costByAll of nothing", x.costByAll(book), 0);
            CHECK.due("turns of nothing", x.turns(book), 0);
            CHECK.noSuch("itemOf in nothing", () -> x.itemOf(book, 0));
            CHECK.noSuch("lineOf in nothing", () -> x.lineOf(book, 0));
            CHECK.noSuch("width in nothing", () -> x.width(book, 0));
            CHECK.noSuch("place in nothing", () -> x.place(book, 0, 0));
        }
        CHECK.noSuch("cue in nothing", () -> x.cue(0, 0));
    }

    private static void wrongInputs() {
        Stavehouse x = fullBars(2);
        for (int wrong : new int[] {-1, 6, Integer.MIN_VALUE, Integer.MAX_VALUE}) {
            CHECK.noSuch("items", () -> x.items(wrong));
            CHECK.noSuch("itemOf", () -> x.itemOf(wrong, 0));
            CHECK.noSuch("cue of an instrument", () -> x.cue(wrong, 0));
            CHECK.noSuch("width", () -> x.width(wrong, 0));
            CHECK.noSuch("lines", () -> x.lines(wrong));
            CHECK.noSuch("lineOf", () -> x.lineOf(wrong, 0));
            CHECK.noSuch("cost", () -> x.cost(wrong));
            CHECK.noSuch("costByAll", () -> x.costByAll(wrong));
            CHECK.noSuch("turns", () -> x.turns(wrong));
            CHECK.noSuch("place", () -> x.place(wrong, 0, 0));
            CHECK.noSuch("itemOf a bar", () -> x.itemOf(0, wrong));
            CHECK.noSuch("cue of a bar", () -> x.cue(0, wrong));
            CHECK.noSuch("width of an item", () -> x.width(0, wrong));
            CHECK.noSuch("lineOf a bar", () -> x.lineOf(0, wrong));
            CHECK.noSuch("place of a bar", () -> x.place(0, wrong, 0));
            CHECK.noSuch("place of a sixteenth", () -> x.place(0, 0, wrong));
        }
        CHECK.noSuch("the score is no part", () -> x.cue(5, 0));
        CHECK.noSuch("itemOf(0, 2)", () -> x.itemOf(0, 2));
        CHECK.noSuch("cue(0, 2)", () -> x.cue(0, 2));
        CHECK.noSuch("width(0, 2)", () -> x.width(0, 2));
        CHECK.noSuch("lineOf(0, 2)", () -> x.lineOf(0, 2));
        CHECK.noSuch("place(0, 2, 0)", () -> x.place(0, 2, 0));
        CHECK.noSuch("a rest is one item", () -> x.width(1, 1));
        CHECK.noSuch("no place inside a note", () -> x.place(0, 0, 1));
        CHECK.noSuch("no place at the end of a bar", () -> x.place(0, 0, 8));
        CHECK.due("a place at the beginning", x.place(0, 0, 0), 4);
    }

    /** Promises 20 to 22: rests, and cues ahead of entries. */
    private static void restsAndCues() {
        Stavehouse x = new Stavehouse();
        for (int i = 0; i < 12; i++) {
            x.bar(8);
        }
        CHECK.due("all silent: one rest", x.items(0), 1);
        CHECK.due("all silent: the last bar", x.itemOf(0, 11), 0);
        CHECK.due("the score has all bars", x.items(5), 12);
        CHECK.due("the score, itemOf", x.itemOf(5, 7), 7);
        // Bars 0 to 2 silent, 3 sounds, 4 and 5 silent, 6 sounds, 7 to 11 silent.
        x.note(0, 3, 2, 10);
        x.note(0, 6, 2, 10);
        x.note(0, 4, 8, 0);
        CHECK.due("no other sounds: items", x.items(0), 5);
        CHECK.due("no other sounds: no cue", x.cue(0, 2), -1);
        x.note(1, 1, 1, 5);
        CHECK.due("another sounds ahead of the last bar: no cue", x.cue(0, 2), -1);
        CHECK.due("nor in the bar in which it sounds", x.cue(0, 1), -1);
        x.note(3, 2, 4, 5);
        CHECK.due("another sounds in the last bar", x.cue(0, 2), 3);
        CHECK.due("the cue is an item", x.items(0), 6);
        CHECK.due("itemOf the rest", x.itemOf(0, 1), 0);
        CHECK.due("itemOf the cue", x.itemOf(0, 2), 1);
        CHECK.due("itemOf the entry", x.itemOf(0, 3), 2);
        CHECK.due("itemOf a bar of rests", x.itemOf(0, 4), 3);
        CHECK.due("itemOf its neighbour", x.itemOf(0, 5), 3);
        CHECK.due("itemOf the last bar", x.itemOf(0, 11), 5);
        CHECK.due("the entry is no cue", x.cue(0, 3), -1);
        x.note(1, 5, 1, 5);
        CHECK.due("a rest of two bars has no cue", x.cue(0, 5), -1);
        x.note(1, 11, 1, 5);
        CHECK.due("a rest at the end has no cue", x.cue(0, 11), -1);
        CHECK.due("items", x.items(0), 6);
        x.empty(0, 3);
        CHECK.due("the cue is ahead of the next entry", x.cue(0, 5), 1);
        CHECK.due("and not where it was", x.cue(0, 2), -1);
        CHECK.due("items of the longer rest", x.items(0), 4);
    }

    /** A rest must be of three bars side by side, and end ahead of a bar of the book. */
    private static void noCues() {
        Stavehouse x = fullBars(12);
        x.note(1, 1, 1, 1);
        x.note(1, 11, 1, 1);
        CHECK.due("a bar is silent between others", x.cue(1, 2), -1);
        CHECK.due("a rest up to the last bar of all", x.cue(2, 11), -1);
        CHECK.due("which is one", x.items(2), 1);
        x.note(3, 0, 1, 1);
        CHECK.due("whatever another has in the first bar", x.cue(2, 11), -1);
        CHECK.due("the last instrument's last bar", x.cue(4, 11), -1);
        x.note(4, 0, 8, 1);
        CHECK.due("silence up to the last bar of all", x.cost(4), 0);
        CHECK.due("a rest ahead of an entry in the last bar", x.cue(1, 10), 0);
        x.note(1, 9, 1, 1);
        CHECK.due("a rest of one bar", x.cue(1, 10), -1);
        CHECK.due("the rest ahead of it", x.cue(1, 8), 0);
        x.note(1, 7, 1, 1);
        CHECK.due("sounds in two and one bar ahead", x.cue(1, 8), -1);
        x.empty(1, 9);
        CHECK.due("sounds in three bars ahead", x.cue(1, 10), 0);
        x.note(1, 8, 1, 1);
        CHECK.due("sounds in two bars ahead", x.cue(1, 10), -1);
        CHECK.due("sounds behind a silence", x.cue(1, 0), -1);
        Stavehouse y = fullBars(5);
        y.note(1, 2, 1, 1);
        y.note(1, 4, 1, 1);
        CHECK.due("silent in bars 0, 1 and 3", y.cue(1, 3), -1);
        CHECK.due("three rests of one and two bars", y.items(1), 4);
    }

    private static void whoPlaysTheCue() {
        Stavehouse x = new Stavehouse();
        for (int i = 0; i < 4; i++) {
            x.bar(16);
        }
        x.note(2, 3, 1, 1);
        x.note(0, 2, 1, 9);
        x.note(1, 2, 1, 9);
        CHECK.due("of equals the lowest", x.cue(2, 2), 0);
        x.note(1, 2, 1, 0);
        CHECK.due("rests are notes, too", x.cue(2, 2), 1);
        notes(x, 4, 2, 3, 0);
        CHECK.due("a silent one plays no cue", x.cue(2, 2), 1);
        x.mend(4, 2, 1, 3);
        CHECK.due("the most notes", x.cue(2, 2), 4);
        notes(x, 3, 2, 3, 3);
        CHECK.due("again the lowest of equals", x.cue(2, 2), 3);
        notes(x, 2, 2, 8, 0);
        CHECK.due("its own rests are no cue", x.cue(2, 2), 3);
        CHECK.due("the cue's width: three notes of one and 13 of rest", x.width(2, 1), 6 + 6 + 6 + 15 + 8);
        CHECK.due("a place of the cue", x.place(2, 2, 3), 32 + 4 + 18);
        CHECK.noSuch("no place by its own rests", () -> x.place(2, 2, 4));
        CHECK.due("the rest's place", x.place(2, 0, 0), 4);
        CHECK.noSuch("the rest has no second place", () -> x.place(2, 1, 0));
    }

    /** Promise 23: 6 and 3 for each halving, at least 4 and 1 for each instrument that begins. */
    private static void widths() {
        int[] lengths = {1, 2, 3, 4, 7, 8, 15, 16, 31, 32};
        int[] springs = {6, 9, 9, 12, 12, 15, 15, 18, 18, 21};
        Stavehouse x = new Stavehouse();
        for (int i = 0; i < lengths.length; i++) {
            x.bar(lengths[i]);
            x.note(0, i, lengths[i], 1);
            CHECK.due("a note of " + lengths[i], x.width(0, i), springs[i] + 8);
            CHECK.due("a silent bar in the score has one note", x.width(5, i), springs[i] + 8);
        }
        CHECK.due("a rest of many bars", x.width(1, 0), 32);
        for (int instrument = 1; instrument < 5; instrument++) {
            x.note(instrument, 0, 1, 1);
            x.note(instrument, 1, 1, 0);
        }
        CHECK.due("five begin on one sixteenth", x.width(5, 0), 9 + 8);
        CHECK.due("rests that begin take no room of their own", x.width(5, 1), 6 + 6 + 8);
        x.mend(4, 0, 0, 0);
        x.mend(3, 0, 0, 0);
        CHECK.due("three begin", x.width(5, 0), 7 + 8);
        x.mend(2, 0, 0, 0);
        CHECK.due("two begin", x.width(5, 0), 6 + 8);
        Stavehouse y = new Stavehouse();
        y.bar(16);
        y.note(0, 0, 4, 1);
        y.note(0, 0, 4, 0);
        y.note(1, 0, 6, 1);
        CHECK.due("notes and a rest that lacks", y.width(0, 0), 12 + 12 + 15 + 8);
        CHECK.due("all places of the score: 0, 4, 6, 8", y.width(5, 0), 12 + 9 + 9 + 15 + 8);
    }

    /** 32 places in one bar: each sixteenth is the beginning of one note. */
    private static void mostPlaces() {
        Stavehouse x = new Stavehouse();
        x.bar(32);
        int[] silences = {0, 8, 15, 22, 29};
        for (int instrument = 0; instrument < 5; instrument++) {
            if (instrument > 0) {
                x.note(instrument, 0, silences[instrument], 0);
            }
            int end = instrument < 4 ? silences[instrument + 1] : 32;
            notes(x, instrument, 0, end - silences[instrument], 7);
        }
        CHECK.due("32 springs", x.width(5, 0), 32 * 6 + 8);
        CHECK.due("just as wide as the paper", x.cost(5), 0);
        CHECK.due("the last place", x.place(5, 0, 31), 4 + 31 * 6);
        CHECK.noSuch("no place behind it", () -> x.place(5, 0, 32));
        x.setPaper(180, 1);
        CHECK.due("shrunk by 20", x.place(5, 0, 31), 4 + 31 * 6 - 19);
        CHECK.due("20 more", x.cost(5), 1600);
    }

    /** Promises 24 to 28: 12 bars that are 23 wide. */
    private static void linesAndTurns() {
        Stavehouse x = fullBars(12);
        x.setPaper(80, 6);
        CHECK.due("four lines of three", x.lines(0), 4);
        CHECK.due("three lines lack 11", x.cost(0), 3 * 121);
        CHECK.due("by all", x.costByAll(0), 3 * 121);
        CHECK.due("one page has no turn", x.turns(0), 0);
        CHECK.due("the score is as wide", x.cost(5), 3 * 121);
        x.setPaper(80, 3);
        CHECK.due("a turn would cost 1600: three lines of four", x.lines(0), 3);
        CHECK.due("three lines that are 12 more", x.cost(0), 3 * 576);
        CHECK.due("by all", x.costByAll(0), 3 * 576);
        CHECK.due("turns", x.turns(0), 0);
        CHECK.due("the score's turns cost nothing", x.cost(5), 3 * 121);
        CHECK.due("the score's turns", x.turns(5), 0);
        CHECK.due("the score's lines", x.lines(5), 4);
        x.setPaper(80, 1);
        CHECK.due("a turn behind each line", x.turns(0), 2 * 1600);
        CHECK.due("by all", x.costByAll(0), 3 * 576 + 2 * 1600);
        CHECK.due("cost", x.cost(0), 3 * 576 + 2 * 1600);
        x.setPaper(276, 1);
        CHECK.due("a line that is just as wide", x.cost(0), 0);
        CHECK.due("one line", x.lines(0), 1);
        x.setPaper(275, 1);
        CHECK.due("a last line that is one more", x.cost(0), 4);
        x.setPaper(200, 3);
        CHECK.due("the paper at first", x.lines(0), 2);
        CHECK.due("its cost: 9 of 23 are 7 more", x.cost(0), 14 * 14);
        CHECK.due("the last line is free", x.lineOf(0, 9), 1);
        CHECK.due("the first has nine", x.lineOf(0, 8), 0);
    }

    private static void theFirstPages() {
        Stavehouse x = new Stavehouse();
        for (int bar = 0; bar < 8; bar++) {
            x.bar(32);
            for (int i = 0; i < 8; i++) {
                x.note(0, bar, 4, 1);
            }
            if (bar == 5) {
                CHECK.due("three lines are one page", x.lines(0) * 10000 + x.turns(0), 30000);
            }
        }
        CHECK.due("104 wide", x.width(0, 0), 104);
        CHECK.due("two in a line are 8 more", x.lines(0), 4);
        CHECK.due("pages of three lines", x.turns(0), 1600);
        CHECK.due("cost", x.cost(0), 4 * 256 + 1600);
        CHECK.due("by all", x.costByAll(0), 4 * 256 + 1600);
        x.setPaper(200, 4);
        CHECK.due("pages of four lines", x.turns(0), 0);
        x.setPaper(200, 2);
        CHECK.due("pages of two lines", x.turns(0), 1600);
    }

    /** 12 lines of one bar each: 71 wide, 51 and more at least, 8 of rest behind. */
    private static void mostLines() {
        Stavehouse x = new Stavehouse();
        for (int bar = 0; bar < 12; bar++) {
            x.bar(16);
            notes(x, 0, bar, 8, 1);
        }
        x.setPaper(80, 6);
        CHECK.due("by all", x.costByAll(0), 11 * 81 + 800);
        CHECK.due("lines", x.lines(0), 12);
        CHECK.due("cost", x.cost(0), 11 * 81 + 800);
        CHECK.due("one turn, for the other is the end", x.turns(0), 800);
        for (int bar = 0; bar < 12; bar++) {
            CHECK.due("lineOf", x.lineOf(0, bar), bar);
        }
        CHECK.due("stretched by 9 of 63", x.place(0, 10, 8), 4 + 48 + 6);
        CHECK.due("the last line is not", x.place(0, 11, 8), 4 + 48);
    }

    private static void stretchedInTheMiddle() {
        Stavehouse x = fullBars(9);
        x.setPaper(80, 6);
        int[] places = {4, 30, 57, 4, 30, 57, 4, 27, 50};
        for (int bar = 0; bar < 9; bar++) {
            CHECK.due("place of bar " + bar, x.place(0, bar, 0), places[bar]);
        }
    }

    /** Lines of four, three and three cost the same in any order but with the short one last. */
    private static void equalWays() {
        Stavehouse x = fullBars(10);
        x.setPaper(80, 1);
        CHECK.due("cost", x.cost(0), 576 + 121 + 2 * 1600);
        CHECK.due("by all", x.costByAll(0), 576 + 121 + 2 * 1600);
        CHECK.due("lines", x.lines(0), 3);
        int[] lines = {0, 0, 0, 1, 1, 1, 1, 2, 2, 2};
        int[] places = {4, 8 + 4 + 15 + 3, 16 + 4 + 30 + 7, 4, 8 + 4 + 15 - 3, 16 + 4 + 30 - 6, 24 + 4 + 45 - 9, 4, 27, 50};
        for (int bar = 0; bar < 10; bar++) {
            CHECK.due("the lesser number first: line of " + bar, x.lineOf(0, bar), lines[bar]);
            CHECK.due("stretched, shrunk, as they are: place of " + bar, x.place(0, bar, 0), places[bar]);
        }
        // One line is 5 more, as dear as two lines of which the first lacks 10.
        Stavehouse y = new Stavehouse();
        y.bar(24);
        y.bar(1);
        for (int i = 0; i < 6; i++) {
            y.note(0, 0, 4, 1);
        }
        for (int instrument = 0; instrument < 3; instrument++) {
            y.note(instrument, 1, 1, 1);
        }
        y.setPaper(90, 6);
        CHECK.due("the widths", y.width(5, 0) * 100 + y.width(5, 1), 8015);
        CHECK.due("either way", y.cost(5), 100);
        CHECK.due("the fewest lines", y.lines(5), 1);
        y.setPaper(89, 6);
        CHECK.due("two lines are better by then", y.cost(5), 81);
        CHECK.due("two lines", y.lines(5), 2);
    }

    private static void leastWidths() {
        Stavehouse x = new Stavehouse();
        x.bar(8);
        x.bar(1);
        for (int instrument = 0; instrument < 5; instrument++) {
            notes(x, instrument, 0, 8, 1);
            x.note(instrument, 1, 1, 1);
        }
        x.setPaper(97, 1);
        CHECK.due("a least width as that of the paper", x.lines(5), 1);
        CHECK.due("costs nothing", x.cost(5), 0);
        x.setPaper(96, 1);
        CHECK.due("a least width of one more", x.lines(5), 2);
        CHECK.due("costs what the first line lacks", x.cost(5), 256);
        CHECK.due("by all", x.costByAll(5), 256);
        // One item may be a line whatever its least width is; here no spring can be shrunk.
        Stavehouse y = new Stavehouse();
        y.bar(15);
        for (int instrument = 0; instrument < 2; instrument++) {
            notes(y, instrument, 0, 8, 1);
            y.note(instrument + 2, 0, 8, 0);
            notes(y, instrument + 2, 0, 7, 1);
        }
        y.setPaper(80, 1);
        CHECK.due("one wide item", y.width(5, 0), 98);
        CHECK.due("is one line", y.lines(5), 1);
        CHECK.due("18 more", y.cost(5), 36 * 36);
        CHECK.due("by all", y.costByAll(5), 36 * 36);
        CHECK.due("nothing is shrunk", y.place(5, 0, 14), 4 + 84);
        y.mend(0, 0, 0, 0);
        CHECK.due("the first spring is shrunk by one", y.place(5, 0, 1), 4 + 6 - 1);
        y.setPaper(97, 1);
        CHECK.due("which is all that is more", y.place(5, 0, 14), 4 + 84 - 1);
        y.setPaper(98, 1);
        CHECK.due("as wide as the paper", y.place(5, 0, 14), 4 + 84);
        y.setPaper(120, 1);
        CHECK.due("a last line is not stretched", y.place(5, 0, 14), 4 + 84);
        // At most to the least widths: only the first spring and the last can be shrunk, by 1 and by 2.
        Stavehouse z = new Stavehouse();
        z.bar(16);
        for (int instrument = 0; instrument < 2; instrument++) {
            notes(z, instrument, 0, 8, 1);
            z.note(instrument + 2, 0, 8, 0);
            notes(z, instrument + 2, 0, 7, 1);
        }
        z.mend(0, 0, 0, 0);
        z.setPaper(80, 1);
        CHECK.due("24 more", z.cost(5), 48 * 48);
        CHECK.due("shrunk by 3 in all, by 1 ahead", z.place(5, 0, 1), 4 + 6 - 1);
        CHECK.due("no more behind it", z.place(5, 0, 15), 4 + 90 - 1);
    }

    private static void wideItemAmongOthers() {
        Stavehouse x = new Stavehouse();
        x.bar(8);
        x.bar(15);
        x.bar(8);
        for (int instrument = 0; instrument < 2; instrument++) {
            notes(x, instrument, 1, 8, 1);
            x.note(instrument + 2, 1, 8, 0);
            notes(x, instrument + 2, 1, 7, 1);
        }
        x.setPaper(80, 1);
        CHECK.due("by all", x.costByAll(5), 57 * 57 + 36 * 36);
        CHECK.due("cost", x.cost(5), 57 * 57 + 36 * 36);
        CHECK.due("lines", x.lines(5), 3);
    }

    /** A rest of 24 and two bars of 48 at least: 32 and 56 wide. */
    private static void leastWidthOfRests() {
        Stavehouse x = new Stavehouse();
        x.bar(1);
        for (int bar = 1; bar < 3; bar++) {
            x.bar(8);
            notes(x, 0, bar, 8, 1);
        }
        x.setPaper(120, 1);
        CHECK.due("one line is allowed, 24 more", x.cost(0), 48 * 48);
        CHECK.due("one line", x.lines(0), 1);
        CHECK.due("by all", x.costByAll(0), 48 * 48);
        x.setPaper(119, 1);
        CHECK.due("one line is not allowed: a turn", x.cost(0), 31 * 31 + 1600);
        CHECK.due("by all", x.costByAll(0), 31 * 31 + 1600);
        CHECK.due("two lines", x.lines(0), 2);
    }

    /** Two bars that cannot share a line, 71 wide, with a turn between them. */
    private static void silenceAroundTurns() {
        Stavehouse x = new Stavehouse();
        for (int bar = 0; bar < 2; bar++) {
            x.bar(16);
            notes(x, 0, bar, 8, 1);
        }
        x.setPaper(80, 1);
        CHECK.due("lines", x.lines(0), 2);
        CHECK.due("8 of rest ahead of the turn", x.turns(0), 800);
        CHECK.due("with the badness", x.cost(0), 800 + 81);
        CHECK.due("by all", x.costByAll(0), 800 + 81);
        x.mend(0, 1, 0, 0);
        x.mend(0, 1, 1, 0);
        CHECK.due("and 2 behind it", x.turns(0), 600);
        x.mend(0, 1, 3, 0);
        CHECK.due("a silence behind a note is another", x.turns(0), 600);
        x.mend(0, 0, 7, 0);
        CHECK.due("rests that are notes count, too", x.turns(0), 500);
        for (int note = 2; note < 8; note++) {
            x.mend(0, 1, note, 0);
        }
        x.bar(16);
        CHECK.due("the book ends in silence", x.items(0), 2);
        CHECK.due("9 ahead and 32 behind are enough", x.turns(0), 0);
        x.setPaper(80, 2);
        CHECK.due("a page of two lines", x.turns(0), 0);
        // A silence behind the next bar's first note is not around the turn.
        Stavehouse z = new Stavehouse();
        for (int bar = 0; bar < 2; bar++) {
            z.bar(16);
            notes(z, 0, bar, 8, 1);
        }
        z.mend(0, 1, 0, 0);
        z.bar(2);
        z.note(0, 2, 1, 0);
        z.note(0, 2, 1, 1);
        z.setPaper(80, 1);
        CHECK.due("by all, asked first", z.costByAll(0), 81 + 22 * 22 + 700);
        CHECK.due("8 ahead and 1 behind", z.turns(0), 700);
        CHECK.due("lines", z.lines(0), 2);
        z.empty(0, 1);
        CHECK.due("a bar without notes is silent, whatever it had", z.cost(0), 81);
        // Silence goes on through whole bars, ahead of the turn as behind it.
        Stavehouse y = new Stavehouse();
        int[] lengths = {16, 1, 1, 16};
        for (int bar = 0; bar < 4; bar++) {
            y.bar(lengths[bar]);
        }
        for (int i = 0; i < 7; i++) {
            y.note(0, 0, 2, 1);
        }
        notes(y, 0, 3, 8, 1);
        y.mend(0, 3, 0, 0);
        y.setPaper(80, 1);
        // Eight springs of 9 are 80 wide with what the item takes; the rest is 32; the last bar 71.
        CHECK.due("the widths", y.width(0, 0) * 10000 + y.width(0, 1) * 100 + y.width(0, 2), 803271);
        CHECK.due("2 ahead, 2 of whole bars and 1 behind", y.turns(0), 1100);
        CHECK.due("one turn", y.lines(0), 2);
        CHECK.due("the rest comes into the line of the last bar", y.cost(0), 1100 + 46 * 46);
        CHECK.due("by all", y.costByAll(0), 1100 + 46 * 46);
    }

    /** A cue is drawn by another's notes, but the silence is the player's own. */
    private static void silenceAtCues() {
        Stavehouse x = new Stavehouse();
        for (int bar = 0; bar < 5; bar++) {
            x.bar(2);
        }
        x.note(0, 0, 2, 1);
        x.note(0, 4, 2, 1);
        x.note(1, 3, 2, 1);
        x.setPaper(80, 1);
        CHECK.due("four items", x.items(0), 4);
        CHECK.due("the cue", x.cue(0, 3), 1);
        // 17, 32, 17 and 17 wide: 83 are 3 more, and one line has no turn.
        CHECK.due("one line", x.cost(0), 36);
        CHECK.due("lines", x.lines(0), 1);
        x.bar(32);
        for (int i = 0; i < 8; i++) {
            x.note(0, 5, 4, 1);
        }
        // The last bar is 104 wide: it stands alone, behind a turn without silence.
        CHECK.due("turns", x.turns(0), 1600);
        CHECK.due("cost", x.cost(0), 36 + 1600 + 48 * 48);
        x.mend(0, 4, 0, 0);
        x.mend(0, 5, 0, 0);
        CHECK.due("a rest of four bars, and no cue, for none sounds in its last bar", x.items(0), 3);
        CHECK.due("8 of whole bars and 4 behind", x.turns(0), 400);
        x.note(1, 4, 1, 1);
        CHECK.due("a cue again", x.cue(0, 4), 1);
        CHECK.due("another's notes break no silence", x.turns(0), 400);
    }

    public static void main(String[] args) {
        noBars();
        wrongInputs();
        restsAndCues();
        noCues();
        whoPlaysTheCue();
        widths();
        mostPlaces();
        linesAndTurns();
        theFirstPages();
        mostLines();
        stretchedInTheMiddle();
        equalWays();
        leastWidths();
        wideItemAmongOthers();
        leastWidthOfRests();
        silenceAroundTurns();
        silenceAtCues();
        CHECK.end("BooksTest");
    }
}
