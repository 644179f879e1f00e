/**
 * The document from its first line to the last of its terms, sentence by sentence and in its order;
 * a call that is not answered as due names the sentence. PromisesToldTest goes on.
 */
public final class TermsTest {
    private static final Check CHECK = new Check();
    private static final int[] ONES = {1, 1, 1, 1, 1, 1, 1, 1};

    private static Run says(String sentence) {
        return new Run(CHECK, sentence);
    }

    private static Run notes(Run run, int instrument, int bar, int pitch, int... lengths) {
        for (int length : lengths) {
            run.told("note " + instrument + " " + bar + " " + length + " " + pitch);
        }
        return run;
    }

    /** Adds bars, from the number first on, each of which one instrument fills by these notes. */
    private static Run filled(Run run, int instrument, int first, int bars, int... lengths) {
        int sum = 0;
        for (int length : lengths) {
            sum += length;
        }
        for (int bar = first; bar < first + bars; bar++) {
            notes(run.due(bar, "bar " + sum), instrument, bar, 7, lengths);
        }
        return run;
    }

    private static Run costs(Run run, int book, int lines, int cost, int turns) {
        run.due(lines, "lines " + book).due(turns, "turns " + book);
        return run.due(cost, "cost " + book).due(cost, "costByAll " + book);
    }

    // ---- what it is, and the public face

    /** Two copies of a part and one of another: a concert is refused as long as two have two versions. */
    private static void whatItIs() {
        Run run = says("An engraver of music and an orchestra's library: bars of notes by instruments, parts in which bars of rest are "
                + "drawn as one and cues of others come ahead of entries, notes spaced by springs, lines broken where pages are "
                + "turned easily, copies that desks borrow, mark and bow, bars that are mended and pasted or owed, and concerts "
                + "that are never played from two versions of a bar.");
        run.told("bar 8", "bar 8", "note 1 1 8 5", "copy 1", "copy 1", "copy 3", "lend 0 0").due(1, "play").told("mend 1 1 0 6");
        run.due(2, "lend 1 1").due(1, "has 0 1").due(2, "has 1 1").refused("play").due(3, "lend 2 0").refused("play").told("paste 0");
        run.due(2, "has 0 1").due(3, "play").told("mend 1 1 0 7").refused("play").told("paste 1").refused("play").told("giveBack 0");
        run.due(2, "play").told("lend 0 0").due(3, "has 0 1").due(3, "play").due(4, "concerts");
    }

    private static void object() {
        Run run = says("An object is used for at most 512 calls after it has been made; what later calls answer is free.");
        run.told("bar 8", "note 0 0 8 1", "copy 0", "lend 0 0");
        for (int i = 0; i < 507; i++) {
            run.told("mend 0 0 0 " + (2 - i % 2));
        }
        run.due(508, "version 0 0");
        Run none = says("The constants: `NONE = -1`: There is none.").told("bar 8", "copy 0").due(Stavehouse.NONE, "deskOf 0");
        none.due(Stavehouse.NONE, "cue 0 0").told("lend 0 0", "bar 8").due(Stavehouse.NONE, "has 0 1").due(-1, "has 0 1");
        Run score = says("`SCORE = 5`: The book of the score.").told("bar 8", "bar 8");
        score.due(2, "items " + Stavehouse.SCORE).due(2, "items 5").due(1, "items 4").noSuch("items 6");
    }

    private static void toldAndAsked() {
        Run run = says("Bars and notes are told and mended, copies made, lent, marked, pasted and played from; lines, "
                + "places, turns, cues, versions, debts and bowings are asked, which changes nothing.");
        filled(run, 2, 0, 2, ONES).told("bar 4", "bar 4", "bar 4", "bar 8", "note 2 5 8 9", "note 3 4 4 9");
        run.told("setPaper 80 1", "copy 2", "copy 2", "copy 3", "lend 0 4", "lend 1 5", "mark 0 0 7", "bow 0 1 0 1");
        run.told("bow 1 1 0 2").due(2, "play").told("mend 2 0 0 8", "bar 2");
        for (String call : new String[] {
            "bars", "notes 2 0", "noteAt 2 0 0", "version 2 0", "time 7", "timeByBars 7", "items 2", "itemOf 2 3",
            "cue 2 4", "width 2 0", "lines 2", "lineOf 2 4", "cost 2", "costByAll 2", "turns 2", "place 2 1 7",
            "copies", "deskOf 0", "has 0 6", "owed 0", "markOf 4 2 0", "oldMarks 4", "clashes 2", "concerts"
        }) {
            run.told(call).unchangedBehind(call);
        }
        run.due(3, "cue 2 4").due(1, "clashes 2").due(1, "oldMarks 4").due(2, "owed 0").due(1, "concerts");
    }

    private static void divisions() {
        Run run = says("Lengths and times are in sixteenths; all divisions are rounded down.");
        filled(run, 2, 0, 6, 8).due(48, "time 6").due(801 + 6, "noteAt 2 0 0").told("bar 7", "note 2 6 7 1");
        // Halvings: 7 is as wide as 4. Stretched by 11 of 45: 3.67 and 7.33. The last line has 23, 23 and 20.
        run.due(12 + 8, "width 2 6").told("setPaper 80 6", "empty 2 6").due(32, "width 2 6");
        run.each("lineOf 2 #", 0, 0, 0, 1, 1, 1, 2).due(27 + 3, "place 2 1 0").due(50 + 7, "place 2 2 0");
        Run shrunk = says("Lengths and times are in sixteenths; all divisions are rounded down.");
        // Four of 23 are 11 more, of 40 that are above the least widths: 2.75, 5.5 and 8.25.
        filled(shrunk, 4, 0, 8, 8).told("setPaper 81 1").due(2, "lines 4");
        shrunk.each("place 4 # 0", 4, 27 - 2, 50 - 5, 73 - 8, 4, 27 - 2, 50 - 5, 73 - 8);
    }

    // ---- the score

    private static void instruments() {
        Run run = says("There are the instruments 0 to 4.").told("bar 4");
        for (int i = 0; i <= 4; i++) {
            run.due(0, "notes " + i + " 0").due(1, "note " + i + " 0 2 9").due(1, "notes " + i + " 0").due(i, "copy " + i);
        }
        run.noSuch("note 5 0 1 1", "note -1 0 1 1", "notes 5 0", "copy 5", "copy -1", "cue 5 0", "clashes 5", "markOf 0 5 0");
    }

    private static void bars() {
        Run run = says("Bars are numbered from 0 on, at most 12; a bar has a length, 1 to 32.");
        for (int bar = 0; bar < 12; bar++) {
            run.noSuch("notes 0 " + bar).due(bar, "bar " + (bar == 0 ? 1 : bar == 11 ? 32 : 8)).due(0, "notes 0 " + bar);
        }
        run.outOfRange("bar 0", "bar 33").refused("bar 8").due(12, "bars").due(113, "time 12").due(81, "time 11").due(1, "time 1");
    }

    private static void notes() {
        Run run = says("In each bar each instrument has notes, at most 8, numbered from 0, one behind the other from the "
                + "beginning of the bar on; a note has a length, and a pitch, 1 to 60, or 0 for a rest.");
        run.told("bar 8", "bar 32").outOfRange("note 3 1 2 61", "note 3 1 2 -1", "note 3 1 0 1", "note 3 1 33 1");
        int[] pitches = {1, 0, 60, 0, 30, 2, 59, 60};
        for (int note = 0; note < 8; note++) {
            run.noSuch("noteAt 3 1 " + note).due(note + 1, "note 3 1 2 " + pitches[note]);
            run.due(200 + pitches[note], "noteAt 3 1 " + note).due(36 + 9 * note, "place 3 1 " + 2 * note);
            run.noSuch("place 3 1 " + (2 * note + 1));
        }
        run.refused("note 3 1 2 1").noSuch("noteAt 3 1 8").due(8, "notes 3 1").due(0, "notes 3 0").due(0, "notes 2 1");
        run.due(1, "note 4 1 32 60").due(3260, "noteAt 4 1 0").due(1, "note 4 0 1 0").due(100, "noteAt 4 0 0");
    }

    private static void lacking() {
        Run run = says("What the notes lack to the length of the bar is a rest, too.").told("bar 8", "bar 16");
        notes(run, 3, 0, 5, 4, 3).due(4 + 12 + 9, "place 3 0 7").due(12 + 9 + 6 + 8, "width 3 0");
        // It needs no note to be there: in the score a bar without notes has one spring, of 16.
        run.due(18 + 8, "width 5 1").due(12 + 9 + 6 + 8 + 4, "place 5 1 0");
        notes(run, 3, 0, 0, 1).due(25, "place 3 0 7").due(35, "width 3 0").noSuch("place 3 0 8");
        // It is silence ahead of a turn, too: 5 of a bar of 13.
        Run turn = says("What the notes lack to the length of the bar is a rest, too.").told("bar 13", "setPaper 80 1");
        filled(notes(turn, 3, 0, 5, ONES), 3, 1, 1, 4, 4, 4, 4, 4, 4, 4, 4).due(1100, "turns 3");
    }

    private static void silent() {
        Run run = says("An instrument is silent in a bar in which no note of it has a pitch above 0.").told("bar 8", "bar 8");
        run.due(1, "items 3").told("note 3 0 4 0").due(1, "items 3").told("note 3 0 4 1").due(2, "items 3");
        run.told("mend 3 0 1 0").due(1, "items 3").told("mend 3 0 0 60").due(2, "items 3").told("empty 3 0").due(1, "items 3");
        run.told("note 2 0 8 1").due(1, "items 3").due(2, "items 2").told("note 3 1 8 0").due(1, "items 3");
    }

    private static void versions() {
        Run run = says("A bar has a version for each instrument, 0 at first, which is 1 more with each change of its notes in this bar.");
        run.told("bar 8", "bar 8").each("version # 0", 0, 0, 0, 0, 0);
        run.told("note 2 1 4 5").due(1, "version 2 1").told("note 2 1 1 0").due(2, "version 2 1").told("mend 2 1 0 5").due(2, "version 2 1");
        run.told("mend 2 1 0 6").due(3, "version 2 1").told("mend 2 1 0 5").due(4, "version 2 1").told("mend 2 1 1 0").due(4, "version 2 1");
        run.told("empty 2 1").due(5, "version 2 1").told("empty 2 1").due(5, "version 2 1").refused("note 2 1 9 1");
        run.told("bar 1", "setPaper 80 1", "copy 2", "lend 0 0", "mark 0 1 1", "paste 0", "giveBack 0").due(5, "version 2 1");
        run.told("note 2 1 8 5").due(6, "version 2 1").each("version # 1", 0, 0, 6, 0, 0).each("version 2 #", 0, 6, 0);
        run.each("version # 0", 0, 0, 0, 0, 0).noSuch("version 2 3");
    }

    // ---- books

    private static void books() {
        Run run = says("The books 0 to 4 are the parts of the instruments, the book 5 is the score.").told("bar 8", "bar 8");
        for (int i = 0; i <= 4; i++) {
            run.due(1, "items " + i).due(32, "width " + i + " 0").told("note " + i + " 1 " + (i + 1) + " 5");
            run.due(2, "items " + i).due(32, "width " + i + " 0").due(2, "items 5").due(23, "width 5 0");
        }
        // Notes of 1, 2, 3, 4 and 5 sixteenths, and rests of 7, 6, 5, 4 and 3.
        run.due(6 + 12 + 8, "width 0 1").due(9 + 12 + 8, "width 1 1").due(9 + 12 + 8, "width 2 1");
        run.due(12 + 12 + 8, "width 3 1").due(12 + 9 + 8, "width 4 1").due(9 + 6 + 6 + 6 + 6 + 9 + 8, "width 5 1");
        run.noSuch("items 6", "items -1", "width 6 0", "lines 6", "cost -1");
    }

    private static void items() {
        Run run = says("A book has items, numbered from 0 on.").due(0, "items 1").noSuch("width 1 0", "itemOf 1 0");
        filled(run, 1, 0, 1, 8).told("bar 2").due(2, "items 1").due(23, "width 1 0").due(32, "width 1 1").noSuch("width 1 2", "width 1 -1");
        run.each("itemOf 1 #", 0, 1).noSuch("itemOf 1 2", "itemOf 1 -1");
        Run score = says("In the score each bar is one.");
        for (int bar = 0; bar < 12; bar++) {
            score.due(bar, "items 5").due(bar, "bar 8").due(bar, "itemOf 5 " + bar).due(23, "width 5 " + bar).due(1, "items 0");
        }
        score.told("note 0 5 8 1").due(12, "items 5").each("itemOf 5 #", 0, 1, 2, 3, 4, 5, 6, 7, 8, 9, 10, 11);
    }

    private static void rests() {
        String sentence = "In a part each bar in which the instrument is not silent is one; bars side by side in which it is "
                + "silent are one together, as many as can be, a rest.";
        for (int part = 0; part <= 4; part++) {
            Run run = says(sentence).times(8, "bar 8").told("note " + part + " 2 8 1", "note " + part + " 3 2 1", "note " + part + " 6 1 1");
            String of = part + " ";
            run.due(6, "items " + part).each("itemOf " + of + "#", 0, 0, 1, 2, 3, 3, 4, 5).due(32, "width " + of + "0");
            run.due(23, "width " + of + "1").due(9 + 12 + 8, "width " + of + "2").due(32, "width " + of + "3").due(32, "width " + of + "5");
            run.told("empty " + of + "3").due(5, "items " + part).each("itemOf " + of + "#", 0, 0, 1, 2, 2, 2, 3, 4);
            run.told("empty " + of + "2", "empty " + of + "6").due(1, "items " + part).due(0, "itemOf " + of + "7");
        }
    }

    private static void cues() {
        String sentence = "But if a rest would be of three bars or more, with a bar behind it, and some other instrument is not "
                + "silent in its last bar, this bar is an item by itself, a cue: it is drawn by the notes of another instrument, of "
                + "those that are not silent in it the one with the most notes there, of several the lowest.";
        for (int part = 0; part <= 4; part++) {
            for (int other = 0; other <= 4; other++) {
                Run run = says(sentence).times(5, "bar 8").told("note " + part + " 4 8 1", "note " + part + " 0 8 1");
                boolean cue = part != other;
                run.due(-1, "cue " + part + " 3").due(3, "items " + part).told("note " + other + " 3 2 0").due(-1, "cue " + part + " 3");
                run.told("note " + other + " 3 1 9").due(cue ? other : -1, "cue " + part + " 3").due(4, "items " + part);
                run.each("itemOf " + part + " #", 0, 1, 1, 2, 3).due(9 + 6 + 12 + 8, "width " + part + " 2");
                run.told("empty " + part + " 4").due(-1, "cue " + part + " 3");
            }
        }
        Run most = says(sentence).times(4, "bar 8").told("note 2 3 8 1", "note 4 2 1 5").due(4, "cue 2 2").told("note 3 2 1 5").due(3, "cue 2 2");
        most.told("note 4 2 1 0").due(4, "cue 2 2").told("note 1 2 1 5", "note 1 2 1 5").due(1, "cue 2 2").told("note 0 2 8 0").due(1, "cue 2 2");
        // A rest of one bar, and then of two, has none; nor has one at the end, whatever others have in bar 0.
        most.told("note 2 1 1 1").due(-1, "cue 2 2").due(4, "items 2").told("empty 2 1").due(1, "cue 2 2").due(3, "items 2");
        most.told("note 2 0 1 1").due(-1, "cue 2 2").due(3, "items 2");
        for (int bars = 3; bars <= 12; bars++) {
            Run end = says(sentence).times(bars, "bar 8");
            for (int other = 1; other <= 4; other++) {
                end.told("note " + other + " 0 8 1", "note " + other + " " + (bars - 1) + " 8 1");
            }
            end.due(-1, "cue 0 " + (bars - 1)).due(1, "items 0");
        }
    }

    // ---- springs

    private static void drawers() {
        Run run = says("A bar is drawn by some instruments: in a part by its own one, or as a cue by the other one, in the score by all five.");
        run.times(4, "bar 8").told("note 3 3 8 1", "note 0 2 8 1", "note 3 2 1 0", "note 3 2 1 0", "note 4 2 7 0");
        notes(run, 1, 2, 9, 2, 2, 4).due(1, "cue 3 2").due(9 + 9 + 12 + 8, "width 3 1").due(9 + 9 + 12 + 8, "width 1 1");
        run.due(15 + 8, "width 0 1").due(32, "width 4 0").due(32, "width 2 0");
        // 0, 1, 2, 4 and 7; where 0 and 1 begin together it is 6 and no less.
        run.due(6 + 6 + 9 + 9 + 6 + 8, "width 5 2").due(15 + 8, "width 5 0").due(15 + 8, "width 5 3");
        // Each of the five has a place of its own.
        Run five = says("A bar is drawn by some instruments: in a part by its own one, or as a cue by the other one, in the score by all five.");
        five.told("bar 32").due(4, "place 5 0 0");
        for (int i = 0; i <= 4; i++) {
            five.noSuch("place 5 0 " + 4 * (i + 1)).told("note " + i + " 0 " + 4 * (i + 1) + " 5").due(16 + 12 * i, "place 5 0 " + 4 * (i + 1));
        }
    }

    private static void places() {
        Run run = says("It has places: its beginning, and wherever a note of one of these instruments begins, or the rest that its notes lack.");
        run.told("bar 16", "note 2 0 4 1", "note 2 0 4 0", "note 2 0 2 0", "note 2 0 1 60").due(12 + 12 + 9 + 6 + 12 + 8, "width 2 0");
        int at = 4;
        for (int[] place : new int[][] {{0, 12}, {4, 12}, {8, 9}, {10, 6}, {11, 12}}) {
            run.due(at, "place 2 0 " + place[0]).due(at, "place 5 0 " + place[0]);
            at += place[1];
        }
        run.noSuch("place 2 0 1", "place 2 0 6", "place 2 0 9", "place 2 0 12", "place 2 0 15", "place 2 0 16", "place 2 0 -1");
        // A place on each sixteenth is the most.
        Run most = says("It has places: its beginning, and wherever a note of one of these instruments begins, or the rest that its notes lack.");
        notes(notes(most.told("bar 32"), 0, 0, 5, ONES), 1, 0, 0, 8);
        notes(notes(most, 1, 0, 5, 1, 1, 1, 1, 1, 1, 1), 2, 0, 0, 15);
        notes(notes(most, 2, 0, 5, 1, 1, 1, 1, 1, 1, 1), 3, 0, 0, 22);
        notes(notes(notes(most, 3, 0, 5, 1, 1, 1, 1, 1, 1, 1), 4, 0, 0, 29), 4, 0, 1, 1, 1, 1).due(32 * 6 + 8, "width 5 0");
        for (int each = 0; each < 32; each++) {
            most.due(4 + 6 * each, "place 5 0 " + each);
        }
        run.told("note 0 0 12 1").due(4, "place 0 0 0").due(19, "place 0 0 12").noSuch("place 0 0 4").due(4 + 12 + 12 + 9 + 6 + 6, "place 5 0 12");
    }

    private static void springs() {
        Run run = says("From each place a spring goes to the next one, or to the end of the bar; its length is how many sixteenths that is.");
        run.told("bar 11", "note 1 0 3 1").due(9 + 15 + 8, "width 1 0").told("note 1 0 5 1").due(9 + 12 + 9 + 8, "width 1 0");
        run.told("note 1 0 2 1").due(9 + 12 + 9 + 6 + 8, "width 1 0").told("note 1 0 1 1").due(9 + 12 + 9 + 6 + 8, "width 1 0");
        run.told("note 0 0 2 1", "note 0 0 5 0").due(4 + 9 + 6 + 12 + 6, "place 5 0 8").due(9 + 6 + 12 + 6 + 9 + 6 + 8, "width 5 0");
        run.due(4 + 9 + 6, "place 5 0 3").due(4 + 9 + 6 + 12, "place 5 0 7").due(9 + 12 + 12 + 8, "width 0 0");
    }

    private static void widths() {
        String sentence = "The width of a spring is 6, and 3 for each time that its length can be halved, rounded down, until it is 1; its "
                + "least width is 4, and 1 for each of these instruments of which a note with a pitch above 0 begins at its "
                + "place; if this is more, the width is that, too.";
        int[] widths = {6, 9, 9, 12, 12, 12, 12, 15, 15, 15, 15, 15, 15, 15, 15, 18};
        Run run = says(sentence);
        for (int i = 0; i < 12; i++) {
            int length = i < 8 ? i + 1 : new int[] {15, 16, 31, 32}[i - 8];
            int width = i == 10 ? 18 : i == 11 ? 21 : widths[length - 1];
            run.told("bar " + length).due(width + 8, "width 5 " + i).told("note 3 " + i + " " + length + " 1");
            run.due(width + 8, "width 3 " + i).due(width + 8, "width 5 " + i);
        }
        int[] least = {6, 6, 7, 8, 9};
        Run more = says(sentence).told("bar 1", "bar 2");
        for (int i = 0; i <= 4; i++) {
            more.told("note " + i + " 0 1 9", "note " + i + " 1 2 9").due(least[i] + 8, "width 5 0").due(9 + 8, "width 5 1").due(14, "width " + i + " 0");
        }
        more.told("mend 1 0 0 0").due(8 + 8, "width 5 0").told("mend 3 0 0 0").due(7 + 8, "width 5 0").told("mend 0 0 0 0").due(6 + 8, "width 5 0");
        // The least widths show where a line is filled: 48 for eight notes of a pitch, 47 with a rest among them.
        Run sum = filled(says(sentence), 3, 0, 2, ONES).told("setPaper 96 6").due(1, "lines 3").told("setPaper 95 6").due(2, "lines 3");
        sum.told("mend 3 1 7 0").due(1, "lines 3").due(1, "lines 5").told("note 0 1 1 5").due(2, "lines 5").told("setPaper 96 1").due(1, "lines 5");
    }

    private static void springOfARest() {
        Run run = says("A rest has one spring of the width 24 and the least width 16, at the beginning of its first bar.");
        filled(run.told("bar 1", "bar 32"), 4, 2, 2, ONES).due(24 + 8, "width 4 0").due(4, "place 4 0 0").due(3, "items 4");
        run.noSuch("place 4 1 0", "place 4 0 1", "place 4 1 1").told("note 4 1 4 0").noSuch("place 4 1 0", "place 4 1 4");
        // 32, 56 and 56 are 144, and 24, 48 and 48 are 120.
        costs(run.told("setPaper 120 1"), 4, 1, 48 * 48, 0).due(8 + 4 + 24 - 8, "place 4 2 0");
        costs(run.told("setPaper 119 1"), 4, 2, 31 * 31 + 1600, 1600).due(8 + 4 + 24 + 24 * 31 / 72, "place 4 2 0");
    }

    private static void takesEight() {
        Run run = says("Besides its springs an item takes 8, of which 4 come ahead of them.");
        filled(run, 2, 0, 1, 8).due(15 + 8, "width 2 0").due(4, "place 2 0 0");
        filled(run, 2, 1, 1, 4, 4).due(24 + 8, "width 2 1").due(23 + 4, "place 2 1 0").due(23 + 4 + 12, "place 2 1 4");
        run.told("bar 8").due(24 + 8, "width 2 2").due(23 + 32 + 4, "place 2 2 0").due(15 + 8, "width 5 2").due(23 + 32 + 4, "place 5 2 0");
    }

    // ---- lines

    private static void paper() {
        Run run = says("The paper has a width, 200 at first, and pages some lines, 3 at first.");
        for (int bar = 0; bar < 8; bar++) {
            // Two of 104 are 8 more than 200; a turn costs 1600, and comes behind the third line.
            int turn = bar >= 6 ? 1600 : 0;
            costs(filled(run, 1, bar, 1, 4, 4, 4, 4, 4, 4, 4, 4), 1, bar / 2 + 1, 256 * ((bar + 1) / 2) + turn, turn);
        }
        run.due(200, "setPaper 208 3").due(1600, "cost 1").due(208, "setPaper 208 4").due(0, "cost 1").due(208, "setPaper 200 3").due(2624, "cost 1");
    }

    private static void linesInOrder() {
        Run run = says("The items of a book come in lines, in their order, one or more in each.");
        filled(run, 3, 0, 12, 8).told("setPaper 80 6").due(4, "lines 3").each("lineOf 3 #", 0, 0, 0, 1, 1, 1, 2, 2, 2, 3, 3, 3);
        Run one = filled(says("The items of a book come in lines, in their order, one or more in each."), 3, 0, 4, ONES);
        one.told("setPaper 80 6").due(4, "lines 3").each("lineOf 3 #", 0, 1, 2, 3).due(1, "lines 0").each("lineOf 0 #", 0, 0, 0, 0);
        Run none = says("The items of a book come in lines, in their order, one or more in each.").due(0, "lines 3").due(0, "lines 5");
        none.told("bar 1").due(1, "lines 3").due(1, "lines 5").due(0, "lineOf 3 0");
    }

    private static void widthOfALine() {
        String sentence = "The width of a line is 8 for each item, and that of all its springs, together; its least width likewise.";
        // 23, 32 and 32 are 87; the fourth bar is 62, and the last line.
        Run run = filled(filled(filled(says(sentence), 0, 0, 1, 8), 0, 1, 2, 4, 4), 0, 3, 1, 1, 1, 1, 1, 1, 1, 1, 1);
        costs(run.told("setPaper 87 6"), 0, 2, 0, 0);
        costs(run.told("setPaper 88 6"), 0, 2, 1, 0);
        costs(run.told("setPaper 86 6"), 0, 2, 4, 0);
        Run least = filled(says(sentence), 1, 0, 2, ONES);
        costs(least.told("setPaper 96 6"), 1, 1, 32 * 32, 0);
        costs(least.told("setPaper 95 6"), 1, 2, 39 * 39, 0);
    }

    private static void leastWidthOfALine() {
        String sentence = "A line of several items must have a least width of at most that of the paper.";
        // Three of 56 are 168, and 144 at least: two lines would lack 32 or 31, and cost a turn of 1600.
        Run run = filled(says(sentence), 2, 0, 3, ONES);
        costs(run.told("setPaper 144 1"), 2, 1, 48 * 48, 0);
        costs(run.told("setPaper 143 1"), 2, 2, 31 * 31 + 1600, 1600);
        // A line of one item may be more: 104 wide, and 102 at least.
        Run one = says(sentence).told("bar 16", "bar 1", "setPaper 80 1", "note 2 0 8 0", "note 3 0 8 0");
        notes(notes(notes(notes(one, 0, 0, 5, ONES), 1, 0, 5, ONES), 2, 0, 5, 1, 1, 1, 1, 1, 1, 1), 3, 0, 5, 1, 1, 1, 1, 1, 1, 1);
        costs(one.due(104, "width 5 0"), 5, 2, 48 * 48, 0).each("lineOf 5 #", 0, 1);
    }

    /** Bars that are 83 wide, and 48 at least. */
    private static Run wide(Run run, int instrument, int first, int bars) {
        return filled(run, instrument, first, bars, 2, 2, 2, 2, 2, 2, 2, 4);
    }

    private static void badness() {
        Run run = says("The badness of a line is the square of what its width lacks to that of the paper, or of twice what it is "
                + "more; but 0 for the last line of the book, if its width lacks something.");
        int[][] papers = {{83, 0, 0}, {84, 1, 0}, {82, 4, 4}, {93, 100, 0}, {81, 16, 16}, {80, 36, 36}, {95, 144, 0}};
        wide(run, 4, 0, 1);
        for (int[] each : papers) {
            costs(run.told("setPaper " + each[0] + " 6"), 4, 1, each[2], 0);
        }
        wide(run, 4, 1, 2);
        for (int[] each : papers) {
            costs(run.told("setPaper " + each[0] + " 6"), 4, 3, 2 * each[1] + each[2], 0);
            costs(run, 5, 3, 2 * each[1] + each[2], 0);
        }
    }

    private static void turnsOfPages() {
        String sentence = "A turn is behind the last line of each page, unless the book ends there.";
        for (int onPage = 1; onPage <= 6; onPage++) {
            Run run = says(sentence).told("setPaper 80 " + onPage);
            for (int bar = 0; bar < 12; bar++) {
                // Each line is a bar that lacks 24, and no turn has any silence around it.
                int turns = bar / onPage * 1600;
                costs(filled(run, 3, bar, 1, ONES), 3, bar + 1, 24 * 24 * bar + turns, turns);
            }
        }
    }

    private static void turnsInSilence() {
        String sentence = "In a part a turn costs 100 times what the silence around it lacks to 16, or nothing; the silence is how many "
                + "sixteenths, without a break, the instrument has no note with a pitch above 0, up to the end of the last bar "
                + "ahead of the turn, and from the beginning of the next one on, together.";
        for (int part = 0; part <= 4; part++) {
            for (int ahead = 0; ahead <= 9; ahead += 3) {
                for (int behind = 2; behind <= 14; behind += 2) {
                    Run run = says(sentence).told("bar " + (8 + ahead), "bar " + (behind + 6), "setPaper 80 1");
                    notes(notes(run, part, 0, 1, ONES), part, 1, 0, 1, behind - 1);
                    notes(run, part, 1, 1, 1, 1, 1, 1, 1, 1).due(2, "lines " + part);
                    int cost = Math.max(0, 1600 - 100 * (ahead + behind));
                    run.due(cost, "turns " + part).told("note " + (part + 1) % 5 + " 0 8 5", "note " + (part + 2) % 5 + " 1 8 5");
                    run.due(cost, "turns " + part).told("mend " + part + " 1 1 9").due(1600 - 100 * (ahead + 1), "turns " + part);
                    run.told("mend " + part + " 0 7 0").due(1600 - 100 * (ahead + 2), "turns " + part);
                }
            }
            // Whole bars of silence, of 3 and of 2, and the beginning and the end of the book.
            Run bars = filled(says(sentence), part, 0, 1, ONES).told("bar 3", "bar 2", "setPaper 80 1");
            filled(bars, part, 3, 1, ONES).due(1100, "turns " + part).told("mend " + part + " 0 7 0").due(1000, "turns " + part);
            bars.told("mend " + part + " 3 0 0").due(900, "turns " + part).told("note " + part + " 1 3 0").due(900, "turns " + part);
            Run first = filled(says(sentence).told("bar 3", "bar 2", "setPaper 80 1"), part, 2, 1, 4, 4, 4, 4, 4, 4, 4, 4);
            costs(first, part, 2, 2 * 48 * 48 + 1100, 1100);
            Run last = filled(says(sentence), part, 0, 1, 4, 4, 4, 4, 4, 4, 4, 4).told("bar 3", "bar 2", "setPaper 80 1");
            costs(last, part, 2, 48 * 48 + 1100, 1100);
        }
        Run score = filled(says("In the score turns cost nothing."), 1, 0, 3, ONES).told("setPaper 80 1");
        costs(costs(score, 1, 3, 2 * 24 * 24 + 3200, 3200), 5, 3, 2 * 24 * 24, 0);
    }

    /** Bars of one note each: 14, 17, 20, 23, 26 or 29 wide by lengths of 1, 2, 4, 8, 16 or 32. */
    private static Run oneNoteEach(Run run, int instrument, int... lengths) {
        for (int bar = 0; bar < lengths.length; bar++) {
            filled(run, instrument, bar, 1, lengths[bar]);
        }
        return run;
    }

    private static void ways() {
        String sentence = "A book is broken so that the badness of all lines and the costs of all turns, together, are least, of several "
                + "ways the one with the fewest lines, of several, written as rows of how many items their lines have, the one "
                + "with the lesser number at the first place at which they differ.";
        Run fewest = oneNoteEach(says(sentence), 2, 1, 2, 4, 16, 16, 32, 16, 16);
        Run lesser = oneNoteEach(says(sentence), 2, 32, 32, 4, 32, 16, 4, 16, 1, 4, 8);
        Run second = oneNoteEach(says(sentence), 2, 16, 32, 32, 32, 2, 2, 1, 4, 4, 8, 32);
        for (int onPage : new int[] {1, 2, 3, 4, 5, 6, 5, 4, 3, 2, 1}) {
            // 103 and 81 are 10 more and free; 77, 81 and 26 lack 16 and 12 and are free.
            costs(fewest.told("setPaper 93 " + onPage), 5, 2, 400, 0).each("lineOf 5 #", 0, 0, 0, 0, 0, 1, 1, 1);
            // 4 and 6, or 5 and 5.
            costs(lesser.told("setPaper 123 " + onPage), 5, 2, 400, 0).each("lineOf 5 #", 0, 0, 0, 0, 1, 1, 1, 1, 1, 1);
            // 3, 3, 4 and 1, or 3, 4, 3 and 1.
            costs(second.told("setPaper 82 " + onPage), 5, 4, 402, 0).each("lineOf 5 #", 0, 0, 0, 1, 1, 1, 2, 2, 2, 2, 3);
        }
        for (int silence = 12; silence <= 14; silence++) {
            // One line is 10 more; the first of two lacks 10, and costs a turn besides: 400, 300 or 200.
            Run turn = says(sentence).told("bar " + (14 + silence), "setPaper 99 1");
            filled(notes(turn, 2, 0, 5, 2, 2, 2, 2, 2, 2, 1, 1), 2, 1, 1, 4);
            costs(turn, 2, silence == 14 ? 2 : 1, silence == 14 ? 300 : 400, silence == 14 ? 200 : 0);
            costs(turn.told("setPaper 99 2"), 2, 2, 100, 0);
        }
    }

    private static void stretchedAndShrunk() {
        String sentence = "In a line whose width lacks something, unless it is the last one, the springs are stretched by that; in one "
                + "whose width is more, they are shrunk by as much, but at most to their least widths; in others they stay.";
        Run run = wide(says(sentence), 3, 0, 2).told("setPaper 90 6");
        run.due(4 + 63 + 7 * 63 / 75, "place 3 0 14").due(4 + 63, "place 3 1 14").told("setPaper 83 6");
        run.due(4 + 63, "place 3 0 14").due(4 + 63, "place 3 1 14").told("setPaper 80 6");
        run.due(4 + 63 - 3 * 28 / 35, "place 3 0 14").due(4 + 63 - 3 * 28 / 35, "place 3 1 14");
        // 98 wide, of which nothing is above the least widths; then 1, where no note with a pitch begins.
        Run most = says(sentence).told("bar 15", "setPaper 80 1", "note 2 0 8 0", "note 3 0 8 0");
        notes(notes(notes(notes(most, 0, 0, 5, ONES), 1, 0, 5, ONES), 2, 0, 5, 1, 1, 1, 1, 1, 1, 1), 3, 0, 5, 1, 1, 1, 1, 1, 1, 1);
        most.due(98, "width 5 0").due(4 + 6 * 14, "place 5 0 14").told("mend 0 0 4 0").due(4 + 24, "place 5 0 4");
        most.due(4 + 30 - 1, "place 5 0 5").due(4 + 84 - 1, "place 5 0 14").told("setPaper 97 1").due(4 + 84 - 1, "place 5 0 14");
        most.told("setPaper 98 1").due(4 + 84, "place 5 0 14").told("setPaper 99 1").due(4 + 84, "place 5 0 14");
    }

    private static void placesInALine() {
        String sentence = "A spring is at 8 for each item ahead of its own one in the line, and 4, and the widths of all springs ahead "
                + "of it in the line, together, and besides, if they are stretched, at what is stretched times these widths, "
                + "divided by the widths of all springs of the line, or, if they are shrunk, less what is shrunk times what "
                + "these widths are above the least ones, divided by what all are above them (if they are).";
        // 12, 12, 15 and 9 are 48, and 64 with the two items: 19 are lacking. The last line is just as wide.
        Run run = filled(filled(says(sentence), 1, 0, 1, 4, 4), 1, 1, 1, 8, 2).told("setPaper 83 6");
        wide(run, 1, 2, 1).each("lineOf 1 #", 0, 0, 1).due(4, "place 1 0 0").due(4 + 12 + 4, "place 1 0 4");
        run.due(8 + 4 + 24 + 9, "place 1 1 0").due(8 + 4 + 39 + 15, "place 1 1 8").due(4, "place 1 2 0").due(4 + 63, "place 1 2 14");
        // Each line is counted from its own first spring on.
        Run lines = filled(says(sentence), 2, 0, 7, 8).told("setPaper 80 6").due(3, "lines 2");
        lines.each("place 2 # 0", 4, 27 + 3, 50 + 7, 4, 27 + 3, 50 + 7, 4);
        // 83 and 32 are 115, of which 15 are more: of 75 and 24, 35 and 14 are above the least widths.
        Run shrunk = filled(wide(says(sentence), 4, 0, 1), 4, 1, 1, 4, 4).told("setPaper 100 1").due(1, "lines 4");
        shrunk.due(4, "place 4 0 0").due(4 + 9 - 15 * 4 / 49, "place 4 0 2").due(4 + 63 - 15 * 28 / 49, "place 4 0 14");
        shrunk.due(8 + 4 + 75 - 15 * 35 / 49, "place 4 1 0").due(8 + 4 + 87 - 15 * 42 / 49, "place 4 1 4");
        // A rest ahead of them: 16 of 24 at least.
        Run rest = filled(says(sentence).told("bar 5", "bar 6"), 0, 2, 1, ONES).told("setPaper 80 1").due(1, "lines 0");
        rest.due(4, "place 0 0 0").due(8 + 4 + 24 - 8 * 8 / 16, "place 0 2 0").due(8 + 4 + 66 - 8 * 15 / 16, "place 0 2 7");
    }

    // ---- copies

    /** Two bars of 8, with two notes of instrument 1 in each, and copies of its part with all desks. */
    private static Run desks(Run run) {
        notes(notes(run.told("bar 8", "bar 8"), 1, 0, 5, 2, 2), 1, 1, 5, 2, 2);
        for (int desk = 0; desk < 6; desk++) {
            run.due(desk, "copy 1").due(desk + 1, "lend " + desk + " " + desk);
        }
        return run;
    }

    private static void copies() {
        Run run = says("Copies are numbered from 0 on, at most 16.");
        for (int copy = 0; copy < 16; copy++) {
            run.noSuch("deskOf " + copy).due(copy, "copies").due(copy, "copy " + copy % 5).due(-1, "deskOf " + copy);
        }
        run.refused("copy 0").noSuch("deskOf 16", "deskOf -1").due(16, "copies");
        Run home = says("A copy is of the part of an instrument; it is at home at first, or with a desk, 0 to 5.").told("bar 4", "copy 2", "copy 3");
        home.due(-1, "deskOf 0").refused("giveBack 0").noSuch("lend 0 6", "lend 0 -1").told("note 2 0 4 1").due(1, "has 0 0").due(0, "has 1 0");
        for (int desk = 0; desk <= 5; desk++) {
            home.due(1, "lend 0 " + desk).due(desk, "deskOf 0").due(2, "lend 1 " + (5 - desk)).due(5 - desk, "deskOf 1");
            home.due(0, "giveBack 0").due(-1, "deskOf 0").due(0, "giveBack 1");
        }
    }

    private static void versionsOfCopies() {
        Run run = says("It has a version of each bar, or lacks it.").told("bar 4", "bar 4", "note 4 1 2 1", "copy 4", "lend 0 3");
        run.due(0, "has 0 0").due(1, "has 0 1").noSuch("has 0 2").told("bar 4").due(-1, "has 0 2").told("note 4 2 1 1").due(-1, "has 0 2");
        run.told("note 4 1 2 1").due(1, "has 0 1").told("paste 0").due(0, "has 0 0").due(2, "has 0 1").due(1, "has 0 2");
        Run home = says("At home it has all bars as they are at any time.").told("copy 4", "bar 4").due(0, "has 0 0").told("note 4 0 1 1");
        home.due(1, "has 0 0").told("lend 0 0", "mend 4 0 0 2", "bar 1").due(1, "has 0 0").due(-1, "has 0 1").told("giveBack 0");
        home.due(2, "has 0 0").due(0, "has 0 1").told("empty 4 0").due(3, "has 0 0").due(0, "owed 0").told("lend 0 1").due(3, "has 0 0");
    }

    private static void debts() {
        Run run = desks(says("With a desk it owes each bar that it lacks, or of which it has another version than that of the score; when "
                + "it is pasted, or given back, it owes none.")).each("owed #", 0, 0, 0, 0, 0, 0).told("copy 1").due(0, "owed 6");
        run.told("mend 1 0 0 6").each("owed #", 1, 1, 1, 1, 1, 1, 0).told("mend 1 0 0 5").each("owed #", 1, 1, 1, 1, 1, 1, 0);
        run.told("bar 4").each("owed #", 2, 2, 2, 2, 2, 2, 0).told("note 0 1 1 1", "empty 3 0").due(2, "owed 0").told("empty 1 1").due(3, "owed 0");
        run.due(3, "paste 0").due(0, "owed 0").due(3, "owed 1").due(3, "giveBack 1").due(0, "owed 1").due(3, "owed 5");
        run.due(0, "paste 0").told("note 1 2 1 1").due(1, "owed 0").due(3, "owed 5").due(0, "owed 1").due(0, "owed 6");
    }

    private static void marksAndBowings() {
        Run run = desks(says("A desk keeps marks and bowings for itself, whichever copy it has: for each instrument and bar a mark, 1 to 9, "
                + "or none, and for each note there a bowing, 1 up or 2 down, or none, each with the version of the bar for which "
                + "it was told."));
        run.due(0, "markOf 0 1 0").due(0, "mark 0 0 9").due(0, "mark 0 1 1").due(0, "mark 1 0 4").due(0, "bow 0 0 1 2").due(0, "bow 1 0 1 1");
        run.told("copy 1", "copy 0", "giveBack 0", "lend 6 0", "lend 7 0").due(9, "markOf 0 1 0").due(1, "markOf 0 1 1").due(4, "markOf 1 1 0");
        run.due(9, "mark 6 0 8").due(2, "bow 6 0 1 1").due(0, "bow 6 0 0 1").due(0, "bow 6 1 1 1").due(1, "bow 1 0 1 0").due(0, "mark 7 0 3");
        run.due(3, "markOf 0 0 0").due(8, "markOf 0 1 0").due(0, "markOf 2 1 0").outOfRange("mark 6 0 10", "bow 6 0 0 3");
        run.due(8, "mark 6 0 0").due(0, "markOf 0 1 0").due(1, "bow 6 0 1 0").due(0, "bow 6 0 1 2");
        Run old = desks(says("A mark is old, if the bar has another version by then; a bowing counts only for the version for which it was told."));
        old.told("mark 0 0 5", "mark 0 1 6", "bow 0 0 0 1", "bow 1 0 0 2").due(0, "oldMarks 0").due(1, "clashes 1").told("mend 1 0 1 9");
        old.due(1, "oldMarks 0").due(0, "oldMarks 1").due(0, "clashes 1").due(5, "markOf 0 1 0").told("mend 1 0 1 5", "paste 0", "paste 1");
        old.due(1, "oldMarks 0").due(0, "clashes 1").due(0, "bow 0 0 0 0").told("bow 1 0 0 2", "bow 0 0 0 1").due(1, "clashes 1");
        old.told("bar 1", "note 0 0 1 1", "mend 1 0 0 5").due(1, "clashes 1").due(1, "oldMarks 0").told("mark 0 0 5").due(0, "oldMarks 0");
    }

    private static void stands() {
        String sentence = "Two desks are at one stand: 0 and 1, 2 and 3, 4 and 5.";
        int[][] together = {{0, 1}, {2, 3}, {4, 5}};
        int[][] apart = {{0, 2}, {0, 3}, {0, 4}, {0, 5}, {1, 2}, {1, 3}, {1, 4}, {1, 5}, {2, 4}, {2, 5}, {3, 4}, {3, 5}};
        for (int[] pair : together) {
            desks(says(sentence)).told("bow " + pair[0] + " 1 1 1", "bow " + pair[1] + " 1 1 2").due(1, "clashes 1").due(0, "clashes 0");
        }
        for (int[] pair : apart) {
            desks(says(sentence)).told("bow " + pair[0] + " 1 1 1", "bow " + pair[1] + " 1 1 2").due(0, "clashes 1");
        }
        Run run = desks(says("They clash at a note, if both have a bowing that counts, and these differ.")).told("bow 2 0 0 1").due(0, "clashes 1");
        run.told("bow 3 0 1 2").due(0, "clashes 1").told("bow 3 1 0 2").due(0, "clashes 1").told("bow 3 0 0 1").due(0, "clashes 1");
        run.told("bow 3 0 0 2").due(1, "clashes 1").told("bow 2 0 0 2").due(0, "clashes 1").told("bow 3 0 0 1").due(1, "clashes 1");
        run.told("bow 3 0 0 0").due(0, "clashes 1").told("bow 3 0 0 1", "bow 2 0 1 1").due(2, "clashes 1").told("mend 1 0 1 7").due(0, "clashes 1");
        run.told("paste 2", "bow 2 0 0 1", "bow 2 0 1 1").due(0, "clashes 1").told("paste 3", "bow 3 0 1 2").due(1, "clashes 1");
    }

    private static void thrown() {
        Run run = desks(says("A call that throws an exception changes nothing.")).told("mend 1 0 0 6", "mark 0 0 3", "bow 1 1 1 2", "copy 0");
        run.outOfRange("bar 33", "note 1 0 0 1", "note 1 0 1 61", "mend 1 0 0 61", "setPaper 79 1", "setPaper 80 7", "mark 0 0 10", "bow 0 1 0 3");
        run.noSuch("note 5 0 1 1", "mend 1 0 2 1", "empty 1 2", "copy 5", "lend 6 6", "giveBack 7", "paste 7", "mark 0 2 1", "bow 0 1 2 1");
        run.refused("note 1 0 5 1", "lend 0 5", "giveBack 6", "paste 6", "mark 6 0 1", "bow 0 0 0 1", "play");
        Run first = desks(says("If several apply, the one that the throws clause names first is thrown.")).told("mend 1 0 0 6", "bar 8", "copy 0");
        first.noSuch("note 5 0 0 61", "note 1 3 9 61", "mend 1 0 2 61", "lend 0 6", "mark 6 3 10", "bow 6 0 0 3", "bow 0 0 2 3", "bow 0 0 2 1");
        first.outOfRange("note 1 0 9 61", "note 1 0 33 1", "mark 6 0 10", "mark 0 2 10", "bow 0 0 0 3").times(9, "bar 1").outOfRange("bar 0");
        first.refused("note 1 0 9 60", "mark 6 0 9", "mark 0 2 9", "bow 0 0 0 2", "bar 1").times(9, "copy 4").noSuch("copy 5").refused("copy 4");
    }

    public static void main(String[] args) {
        whatItIs();
        object();
        toldAndAsked();
        divisions();
        instruments();
        bars();
        notes();
        lacking();
        silent();
        versions();
        books();
        items();
        rests();
        cues();
        drawers();
        places();
        springs();
        widths();
        springOfARest();
        takesEight();
        paper();
        linesInOrder();
        widthOfALine();
        leastWidthOfALine();
        badness();
        turnsOfPages();
        turnsInSilence();
        ways();
        stretchedAndShrunk();
        placesInALine();
        copies();
        versionsOfCopies();
        debts();
        marksAndBowings();
        stands();
        thrown();
        CHECK.end("TermsTest");
    }
}
