/** The sentences of the document that name an edge: lines, turns, ways and places in a line. */
public final class LinesEdgesTest {
    private static final Check CHECK = new Check();

    private static Run run(String about) {
        return new Run(CHECK, about);
    }

    /** A bar of notes of these lengths, of instrument 0, and of a rest that they lack. */
    private static void bar(Run run, int bar, int lack, int... lengths) {
        int sum = lack;
        for (int length : lengths) {
            sum += length;
        }
        run.due(bar, "bar " + sum);
        for (int length : lengths) {
            run.told("note 0 " + bar + " " + length + " 5");
        }
    }

    /** Bars of one note each: 14, 17, 20, 23, 26 or 29 wide by lengths of 1, 2, 4, 8, 16 or 32. */
    private static Run oneNoteEach(String about, int... lengths) {
        Run run = run(about);
        for (int bar = 0; bar < lengths.length; bar++) {
            bar(run, bar, 0, lengths[bar]);
        }
        return run;
    }

    /** Bars of 8 notes of 1: 56 wide, 48 at least, so that two share no line on paper below 96. */
    private static Run eightNotesEach(String about, int count) {
        Run run = run(about);
        for (int bar = 0; bar < count; bar++) {
            bar(run, bar, 0, 1, 1, 1, 1, 1, 1, 1, 1);
        }
        return run;
    }

    /** Bars that are 83 wide and 48 at least. */
    private static Run wideBars(String about, int count) {
        Run run = run(about);
        for (int bar = 0; bar < count; bar++) {
            bar(run, bar, 0, 2, 2, 2, 2, 2, 2, 2, 4);
        }
        return run.due(83, "width 0 0").due(83, "width 5 " + (count - 1));
    }

    private static void costs(Run run, int lines, int cost, int turns) {
        for (int book = 0; book <= 5; book += 5) {
            run.due(lines, "lines " + book).due(book == 0 ? cost : cost - turns, "cost " + book);
            run.due(book == 0 ? cost : cost - turns, "costByAll " + book).due(book == 0 ? turns : 0, "turns " + book);
        }
    }

    /** A book without bars has no lines; with one bar it has one line, the last. */
    private static void fewItems() {
        Run run = run("few items");
        costs(run, 0, 0, 0);
        run.told("setPaper 80 1");
        costs(run, 0, 0, 0);
        run.told("bar 1");
        costs(run, 1, 0, 0);
        run.due(0, "lineOf 0 0").due(0, "lineOf 5 0").noSuch("lineOf 0 1", "lineOf 5 1");
    }

    /** "The paper has a width, 200 at first, and pages some lines, 3 at first." */
    private static void paperAtFirst() {
        Run wide = oneNoteEach("200 at first", 32, 32, 32, 32, 32, 32, 8, 32);
        // 174 and 23 are 197, and 226 are 26 more.
        wide.due(2, "lines 5").due(9, "cost 5").due(1, "lineOf 5 7").due(0, "lineOf 5 6").told("setPaper 200 3");
        wide.due(2, "lines 5").due(9, "cost 5");
        Run first = run("3 lines at first");
        for (int bar = 0; bar < 8; bar++) {
            bar(first, bar, 0, 4, 4, 4, 4, 4, 4, 4, 4);
            // Two of 104 are 8 more than 200, and one that is left is free.
            int lines = bar / 2 + 1;
            int whole = (bar + 1) / 2 * 256;
            first.due(lines, "lines 0").due(lines > 3 ? 1600 : 0, "turns 0").due(whole + (lines > 3 ? 1600 : 0), "cost 0");
        }
        Run pages = run("3 at first");
        for (int bar = 0; bar < 4; bar++) {
            bar(pages, bar, 0, 4, 4, 4, 4, 4, 4, 4, 4);
        }
        // Two of 104 are 8 more than 200; alone they would lack 96.
        pages.due(2, "lines 0").told("setPaper 104 3");
        costs(pages, 4, 1600, 1600);
        pages.told("setPaper 104 4");
        costs(pages, 4, 0, 0);
    }

    /** "The square of what its width lacks to that of the paper, or of twice what it is more." */
    private static void badness() {
        Run run = wideBars("a line that is as wide as the paper", 3).due(200, "setPaper 83 6");
        costs(run, 3, 0, 0);
        run.told("setPaper 82 6");
        costs(run, 3, 4 + 4 + 4, 0);
        run.told("setPaper 84 6");
        costs(run, 3, 1 + 1, 0);
        run.told("setPaper 80 6");
        costs(run, 3, 36 + 36 + 36, 0);
        run.told("setPaper 95 6");
        costs(run, 3, 144 + 144, 0);
    }

    /** "But 0 for the last line of the book, if its width lacks something." */
    private static void lastLine() {
        Run run = wideBars("the last line", 1);
        int[][] papers = {{500, 0}, {200, 0}, {84, 0}, {83, 0}, {82, 4}, {81, 16}, {80, 36}};
        for (int[] paper : papers) {
            run.told("setPaper " + paper[0] + " 1");
            costs(run, 1, paper[1], 0);
        }
    }

    /** "A line of several items must have a least width of at most that of the paper." */
    private static void leastWidthOfALine() {
        Run run = eightNotesEach("the least width of a line", 2).told("setPaper 96 6");
        costs(run, 1, 32 * 32, 0);
        run.told("setPaper 97 6");
        costs(run, 1, 30 * 30, 0);
        run.told("setPaper 95 6");
        costs(run, 2, 39 * 39, 0);
        // A note without a pitch takes 4, and not 5.
        run.told("mend 0 1 3 0");
        costs(run, 1, 34 * 34, 0);
        run.told("setPaper 94 6");
        costs(run, 2, 38 * 38, 0);
        // A second instrument on a sixteenth takes one more in the score, and none in the part.
        run.told("note 1 1 1 5", "setPaper 95 6").due(1, "lines 0").due(2, "lines 5").due(39 * 39, "costByAll 5");
        run.told("setPaper 96 6").due(1, "lines 5").due(32 * 32, "costByAll 5");
    }

    /** "A rest has the width 24 and the least width 16": 32 + 56 + 56 wide, 24 + 48 + 48 at least. */
    private static void leastWidthOfARest() {
        Run run = run("the least width of a rest").told("bar 1");
        bar(run, 1, 0, 1, 1, 1, 1, 1, 1, 1, 1);
        bar(run, 2, 0, 1, 1, 1, 1, 1, 1, 1, 1);
        run.told("setPaper 120 1").due(1, "lines 0").due(48 * 48, "cost 0").due(48 * 48, "costByAll 0").due(0, "turns 0");
        run.told("setPaper 119 1").due(2, "lines 0").due(31 * 31 + 1600, "cost 0").due(31 * 31 + 1600, "costByAll 0");
        run.due(1600, "turns 0").told("setPaper 121 1").due(46 * 46, "cost 0").due(1, "lines 0");
    }

    /** "A line of one item that is wider than the paper", first, in the middle and last. */
    private static void wideItems() {
        Run run = run("a line of one item that is wider");
        bar(run, 0, 0, 4, 4, 4, 4, 4, 4, 4, 4);
        run.told("setPaper 80 6");
        costs(run, 1, 48 * 48, 0);
        bar(run, 1, 0, 8);
        // 104 and 23 are 47 more; alone the first is 24 more, and the last one free.
        costs(run, 2, 48 * 48, 0);
        bar(run, 2, 0, 4, 4, 4, 4, 4, 4, 4, 4);
        costs(run, 3, 48 * 48 + 57 * 57 + 48 * 48, 0);
        Run score = run("an item of which the least width is more than the paper").told("bar 16", "bar 1");
        score.times(8, "note 0 0 1 1").times(8, "note 1 0 1 1").told("note 2 0 8 0").times(7, "note 2 0 1 1");
        score.told("note 3 0 8 0").times(7, "note 3 0 1 1").told("setPaper 80 1");
        // 104 wide and 102 at least: nothing but the last spring, of a rest, can be shrunk.
        score.due(16 * 6 + 8, "width 5 0").due(2, "lines 5").due(48 * 48, "cost 5").due(48 * 48, "costByAll 5");
        score.each("lineOf 5 #", 0, 1).due(4 + 90, "place 5 0 15").due(4, "place 5 1 0");
        Run between = run("such an item between others").told("bar 8", "bar 16", "bar 8");
        between.times(8, "note 0 1 1 1").times(8, "note 1 1 1 1").told("note 2 1 8 0").times(7, "note 2 1 1 1");
        between.told("note 3 1 8 0").times(7, "note 3 1 1 1").told("setPaper 80 1");
        between.due(57 * 57 + 48 * 48, "costByAll 5").due(57 * 57 + 48 * 48, "cost 5").each("lineOf 5 #", 0, 1, 2);
    }

    /** Twelve lines, the most that a book has, each of which is one more than the paper. */
    private static void mostLines() {
        Run run = wideBars("twelve lines that are one more", 12).told("setPaper 82 6");
        costs(run, 12, 12 * 4 + 1600, 1600);
        run.told("setPaper 82 1");
        costs(run, 12, 12 * 4 + 11 * 1600, 11 * 1600);
        run.each("lineOf 0 #", 0, 1, 2, 3, 4, 5, 6, 7, 8, 9, 10, 11);
    }

    /** Twelve bars of 32 places: each a line that is 120 more than the narrowest paper. */
    private static void dearestLines() {
        int[] silence = {0, 8, 15, 22, 29, 32};
        Run run = run("the dearest lines").told("setPaper 80 1");
        for (int bar = 0; bar < 12; bar++) {
            run.told("bar 32");
            for (int instrument = 0; instrument < 5; instrument++) {
                if (instrument > 0) {
                    run.told("note " + instrument + " " + bar + " " + silence[instrument] + " 0");
                }
                run.times(silence[instrument + 1] - silence[instrument], "note " + instrument + " " + bar + " 1 60");
            }
        }
        run.due(12, "lines 5").due(12 * 240 * 240, "cost 5").due(12 * 240 * 240, "costByAll 5").due(0, "turns 5");
        run.due(4 + 31 * 5, "place 5 11 31").told("setPaper 500 6").due(6, "lines 5").due(100 * 100 * 5, "cost 5");
    }

    /** "Behind the last line of each page, unless the book ends there": lines of one bar each. */
    private static void pages() {
        int[] turnsOfTwelve = {11, 5, 3, 2, 2, 1};
        Run twelve = eightNotesEach("twelve lines", 12);
        for (int onPage = 1; onPage <= 6; onPage++) {
            twelve.told("setPaper 80 " + onPage);
            costs(twelve, 12, 11 * 24 * 24 + 1600 * turnsOfTwelve[onPage - 1], 1600 * turnsOfTwelve[onPage - 1]);
        }
        twelve.each("lineOf 0 #", 0, 1, 2, 3, 4, 5, 6, 7, 8, 9, 10, 11).noSuch("lineOf 0 12");
        for (int onPage = 1; onPage <= 6; onPage++) {
            Run end = eightNotesEach("a page of " + onPage + " that ends where the book ends", onPage);
            end.told("setPaper 80 " + onPage);
            costs(end, onPage, (onPage - 1) * 24 * 24, 0);
            bar(end, onPage, 0, 1, 1, 1, 1, 1, 1, 1, 1);
            costs(end, onPage + 1, onPage * 24 * 24 + 1600, 1600);
        }
    }

    /** "100 times what the silence around it lacks to 16, or nothing": of 16 and of less. */
    private static void silence() {
        int[] ahead = {0, 1, 7, 8, 14, 15, 16, 17, 24};
        int[] behind = {0, 1, 2, 8, 9, 14, 15, 16, 17, 25};
        for (int lack : ahead) {
            for (int rest : behind) {
                Run run = run("a silence of " + lack + " and " + rest).told("setPaper 80 1");
                bar(run, 0, lack, 1, 1, 1, 1, 1, 1, 1, 1);
                run.told("bar " + (rest + 7));
                if (rest > 0) {
                    run.told("note 0 1 " + rest + " 0");
                }
                run.times(7, "note 0 1 1 5").due(2, "lines 0");
                run.due(lack + rest >= 16 ? 0 : 1600 - 100 * (lack + rest), "turns 0").due(0, "turns 5");
            }
        }
    }

    /** "Without a break": a note with a pitch ends it, whatever silence is beyond. */
    private static void silenceWithABreak() {
        Run run = eightNotesEach("a silence with a break", 2).told("setPaper 80 1", "mend 0 0 6 0", "mend 0 1 1 0");
        run.due(2, "lines 0").due(1600, "turns 0").told("mend 0 0 7 0").due(1400, "turns 0");
        run.told("mend 0 0 5 0").due(1300, "turns 0").told("mend 0 1 0 0").due(1100, "turns 0");
        run.told("mend 0 1 7 0", "mend 0 1 6 0").due(1100, "turns 0").told("mend 0 0 7 60").due(1400, "turns 0");
        run.told("mend 0 0 7 0", "mend 0 1 0 1").due(1300, "turns 0");
        run.told("note 1 0 8 5", "note 1 1 8 5").due(1300, "turns 0");
    }

    /** "No note with a pitch above 0" goes on through whole bars: 56, a rest of 32, and 56 wide. */
    private static void silenceOfBars() {
        Run run = eightNotesEach("a silence of whole bars", 1).told("bar 3", "bar 2");
        bar(run, 3, 0, 1, 1, 1, 1, 1, 1, 1, 1);
        run.told("setPaper 80 1").due(2, "lines 0").due(1100, "turns 0").due(256 + 1100, "cost 0");
        run.due(256 + 1100, "costByAll 0").each("lineOf 0 #", 0, 0, 0, 1).told("note 0 1 3 0").due(1100, "turns 0");
        run.told("mend 0 0 7 0").due(1000, "turns 0").told("mend 0 3 0 0").due(900, "turns 0");
        for (int silent = 14; silent <= 17; silent++) {
            Run bars = eightNotesEach("a silence of two bars, " + silent, 1).told("bar " + (silent - 1), "bar 1");
            bar(bars, 3, 0, 1, 1, 1, 1, 1, 1, 1, 1);
            bars.told("setPaper 80 1").due(silent >= 16 ? 0 : 1600 - 100 * silent, "turns 0").due(2, "lines 0");
        }
    }

    /** The silence goes back to the beginning of the book, and on to its end, but not beyond. */
    private static void silenceAtTheEnds() {
        Run first = run("silence from the beginning of the book").told("bar 3", "bar 2", "setPaper 80 1");
        bar(first, 2, 0, 4, 4, 4, 4, 4, 4, 4, 4);
        first.due(2, "lines 0").due(1100, "turns 0").due(48 * 48 * 2 + 1100, "cost 0").due(48 * 48 * 2 + 1100, "costByAll 0");
        Run last = run("silence to the end of the book").told("setPaper 80 1");
        bar(last, 0, 0, 4, 4, 4, 4, 4, 4, 4, 4);
        last.told("bar 3", "bar 2").due(2, "lines 0").due(1100, "turns 0").due(48 * 48 + 1100, "cost 0");
        last.due(48 * 48 + 1100, "costByAll 0").told("bar 11").due(0, "turns 0").due(48 * 48, "cost 0");
        Run twelve = run("silence to the end of twelve bars").told("setPaper 80 1");
        bar(twelve, 0, 0, 4, 4, 4, 4, 4, 4, 4, 4);
        twelve.times(11, "bar 1").due(2, "lines 0").due(500, "turns 0").due(48 * 48 + 500, "cost 0");
        Run eight = run("silence to the eighth rest of the last bar").told("setPaper 80 1", "bar 32").times(8, "note 4 0 4 5");
        eight.told("bar 6").times(9, "bar 1").told("bar 8").times(8, "note 4 11 1 0").due(2, "lines 4").due(0, "turns 4");
        eight.told("mend 4 11 0 5").due(100, "turns 4").told("mend 4 11 0 0").due(0, "turns 4");
    }

    /** What is asked first is not answered by what another call left behind. */
    private static void askedFirst() {
        for (String call : new String[] {"cost 0", "costByAll 0"}) {
            Run run = eightNotesEach("asked first: " + call, 2).told("setPaper 80 1").due(24 * 24 + 1600, call);
            run.told("mend 0 0 7 0").due(24 * 24 + 1500, call).told("setPaper 81 1").due(25 * 25 + 1500, call);
            run.told("setPaper 81 2").due(25 * 25, call).told("empty 0 0").due(7 * 7 * 4, call).told("lines 5").due(7 * 7 * 4, call);
        }
    }

    /** Notes that were taken out break no silence, at the end of a bar or at its beginning. */
    private static void silenceOfEmptyBars() {
        Run run = eightNotesEach("silence of bars that were emptied", 4).told("setPaper 80 1").due(4, "lines 0");
        run.due(3 * 1600, "turns 0").told("empty 0 1").due(3, "lines 0").due(800 + 1600, "turns 0");
        run.told("empty 0 2").due(2, "lines 0").due(0, "turns 0").due(256, "cost 0").due(256, "costByAll 0");
        Run behind = run("silence that begins with a bar that was emptied").told("setPaper 80 1");
        bar(behind, 0, 0, 4, 4, 4, 4, 4, 4, 4, 4);
        bar(behind, 1, 0, 1, 1, 1, 1, 1, 1, 1, 1);
        behind.due(1600, "turns 0").told("empty 0 1").due(2, "lines 0").due(800, "turns 0").due(48 * 48 + 800, "cost 0");
        behind.told("note 0 1 1 0").due(800, "turns 0").told("note 0 1 2 0", "note 0 1 1 5").due(1300, "turns 0");
    }

    /** "In the score turns cost nothing", and a part's cue is silence, for it is not its own. */
    private static void silenceOfACue() {
        Run run = eightNotesEach("silence of a cue", 1).told("bar 1", "bar 1", "bar 2");
        bar(run, 4, 0, 1, 1, 1, 1, 1, 1, 1, 1);
        run.told("note 1 3 1 5", "note 1 3 1 5", "setPaper 80 1").due(1, "cue 0 3").due(4, "items 0");
        // 56 and 32 are 8 more, 20 and 56 the last line.
        run.due(2, "lines 0").due(1200, "turns 0").due(256 + 1200, "cost 0").due(256 + 1200, "costByAll 0");
        run.each("lineOf 0 #", 0, 0, 0, 1, 1).due(0, "turns 5");
    }

    /** "Several ways of the same cost": "the one with the fewest lines". */
    private static void fewestLines() {
        Run run = oneNoteEach("the fewest lines", 1, 2, 4, 16, 16, 32, 16, 16).told("setPaper 93 1");
        // 103 and 81 are 10 more and free; 77, 81 and 26 lack 16 and 12 and are free.
        run.due(400, "cost 5").due(400, "costByAll 5").due(2, "lines 5").each("lineOf 5 #", 0, 0, 0, 0, 0, 1, 1, 1);
        run.told("setPaper 92 1").due(15 * 15 + 11 * 11, "cost 5").due(3, "lines 5");
        run.told("setPaper 94 1").due(18 * 18, "cost 5").due(2, "lines 5");
    }

    /** A turn that costs as much as a line that is too wide: "badness and turns, together". */
    private static void linesAgainstTurns() {
        for (int silence = 12; silence <= 14; silence++) {
            Run run = run("a turn in a silence of " + silence);
            bar(run, 0, silence, 2, 2, 2, 2, 2, 2, 1, 1);
            bar(run, 1, 0, 4);
            run.due(89, "width 0 0").due(20, "width 0 1").told("setPaper 99 1");
            // One line is 10 more; the first of two lacks 10, and costs a turn besides.
            boolean one = silence <= 13;
            int turn = 1600 - 100 * silence;
            run.due(one ? 1 : 2, "lines 0").due(one ? 400 : 100 + turn, "cost 0").due(one ? 0 : turn, "turns 0");
            run.due(one ? 400 : 100 + turn, "costByAll 0").told("setPaper 99 2").due(2, "lines 0").due(100, "cost 0");
        }
    }

    /** "The one with the lesser number at the first place at which they differ." */
    private static void lesserNumber() {
        Run two = oneNoteEach("4 and 6, or 5 and 5", 32, 32, 4, 32, 16, 4, 16, 1, 4, 8).told("setPaper 123 1");
        two.due(400, "cost 5").due(400, "costByAll 5").due(2, "lines 5").each("lineOf 5 #", 0, 0, 0, 0, 1, 1, 1, 1, 1, 1);
        Run three = oneNoteEach("3, 4 and 3, or 4, 3 and 3", 8, 8, 8, 8, 8, 8, 8, 8, 8, 8).told("setPaper 84 1");
        three.due(225 + 256, "cost 5").due(3, "lines 5").each("lineOf 5 #", 0, 0, 0, 1, 1, 1, 1, 2, 2, 2);
        Run second = oneNoteEach("3, 3, 4 and 1, or 3, 4, 3 and 1", 16, 32, 32, 32, 2, 2, 1, 4, 4, 8, 32);
        second.told("setPaper 82 1").due(16 + 361 + 25, "cost 5").due(402, "costByAll 5").due(4, "lines 5");
        second.each("lineOf 5 #", 0, 0, 0, 1, 1, 1, 2, 2, 2, 2, 3);
    }

    /** "The springs are stretched by that", not in the last line, nor in one as wide as the paper. */
    private static void stretched() {
        Run run = oneNoteEach("lines that are stretched", 8, 8, 8, 8, 8, 8, 8, 8, 8).told("setPaper 80 6");
        // Three of 23 lack 11: 11 times 15 and 30 by 45.
        run.each("place 5 # 0", 4, 27 + 3, 50 + 7, 4, 27 + 3, 50 + 7, 4, 27, 50).due(2 * 121, "cost 5");
        run.told("setPaper 92 6").each("place 5 # 0", 4, 27, 50, 73, 4, 27, 50, 73, 4);
        Run inside = wideBars("a line that is stretched", 2).told("setPaper 92 6");
        int[] starts = {0, 2, 4, 6, 8, 10, 12, 14};
        for (int note = 0; note < 8; note++) {
            inside.due(4 + 9 * note + 9 * 9 * note / 75, "place 0 0 " + starts[note]);
            inside.due(4 + 9 * note, "place 0 1 " + starts[note]);
        }
        inside.told("setPaper 84 6").due(4 + 63, "place 0 0 14").told("setPaper 83 6").due(4 + 63, "place 0 0 14");
    }

    /** "They are shrunk by as much, but at most to their least widths", in the last line, too. */
    private static void shrunk() {
        Run inside = wideBars("a line that is shrunk", 2).told("setPaper 80 6");
        int[] starts = {0, 2, 4, 6, 8, 10, 12, 14};
        for (int note = 0; note < 8; note++) {
            // 3 times what is above the least widths, 4 each, by 35.
            inside.due(4 + 9 * note - 3 * 4 * note / 35, "place 0 0 " + starts[note]);
            inside.due(4 + 9 * note - 3 * 4 * note / 35, "place 0 1 " + starts[note]);
        }
        // 112 wide and 96 at least: just as much as can be, one less, and where nothing is more.
        Run two = eightNotesEach("a line of its least width", 2).told("setPaper 96 6").due(1, "lines 0");
        two.due(12 + 48 - 8, "place 0 1 0").due(12 + 90 - 15, "place 0 1 7").due(4 + 6 - 1, "place 0 0 1").told("setPaper 97 6");
        two.due(12 + 48 - 7, "place 0 1 0").due(12 + 90 - 14, "place 0 1 7").due(4 + 6 - 0, "place 0 0 1").told("setPaper 111 6");
        two.due(12 + 48, "place 0 1 0").due(12 + 90, "place 0 1 7").told("setPaper 112 6").due(12 + 90, "place 0 1 7");
        Run lines = oneNoteEach("lines that are shrunk", 8, 8, 8, 8, 8, 8, 8, 8).told("setPaper 81 1");
        // A turn costs 1600, and three lines two of them: 92 are 11 more, of 40 that are above.
        lines.due(2, "lines 0").each("place 0 # 0", 4, 27 - 2, 50 - 5, 73 - 8, 4, 27 - 2, 50 - 5, 73 - 8);
    }

    /** "Divided by what all are above them (if they are)": nothing is, or less than what is more. */
    private static void nothingAbove() {
        Run none = run("no spring above its least width").told("bar 15").times(8, "note 0 0 1 1").times(8, "note 1 0 1 1");
        none.told("note 2 0 8 0").times(7, "note 2 0 1 1").told("note 3 0 8 0").times(7, "note 3 0 1 1");
        none.told("setPaper 80 1").due(98, "width 5 0").due(36 * 36, "cost 5");
        for (int at = 0; at < 15; at++) {
            none.due(4 + 6 * at, "place 5 0 " + at);
        }
        none.told("mend 0 0 4 0");
        for (int at = 0; at < 15; at++) {
            none.due(4 + 6 * at - (at > 4 ? 1 : 0), "place 5 0 " + at);
        }
        none.told("setPaper 97 1").due(4 + 30 - 1, "place 5 0 5").told("setPaper 98 1").due(4 + 30, "place 5 0 5");
    }

    /** Bars of one rest are in one line. */
    private static void linesOfARest() {
        Run run = eightNotesEach("the line of a rest", 1).told("bar 8", "bar 8");
        bar(run, 3, 0, 4, 4, 4, 4, 4, 4, 4, 4);
        run.told("setPaper 80 6").due(2, "lines 0").each("lineOf 0 #", 0, 0, 0, 1).each("itemOf 0 #", 0, 1, 1, 2);
        run.due(8 + 4 + 48 - 4, "place 0 1 0").noSuch("place 0 2 0");
    }

    public static void main(String[] args) {
        fewItems();
        paperAtFirst();
        badness();
        lastLine();
        leastWidthOfALine();
        leastWidthOfARest();
        wideItems();
        mostLines();
        dearestLines();
        pages();
        silence();
        silenceWithABreak();
        silenceOfBars();
        silenceAtTheEnds();
        askedFirst();
        silenceOfEmptyBars();
        silenceOfACue();
        fewestLines();
        linesAgainstTurns();
        lesserNumber();
        stretched();
        shrunk();
        nothingAbove();
        linesOfARest();
        CHECK.end("LinesEdgesTest");
    }
}
