/**
 * The promises 14 to 37, line by line and in the document's order: a call that is not answered as
 * due names the promise and its line.
 */
public final class PromisesAskedTest {
    private static final Check CHECK = new Check();

    private static Run says(int promise, String line) {
        return new Run(CHECK, "Promise " + promise + ": " + line);
    }

    /** Bars of 4, 8 and 16; instrument 2 has three notes in bar 1, and one rest in bar 2. */
    private static Run music(Run run) {
        return run.told("bar 4", "bar 8", "bar 16", "note 2 1 2 5", "note 2 1 1 0", "note 2 1 4 60", "note 2 2 3 0");
    }

    /**
     * Six bars of 8: instrument 2 has eight notes in bars 0 and 5, and instrument 3 two in bar 4. Part 2
     * has items of 56, 32, 6 + 15 and 56; the score has bars of 56, 23, 23, 23, 6 + 6 + 12 + 8 and 56.
     */
    private static Run book(Run run) {
        run.times(6, "bar 8").times(8, "note 2 0 1 5").times(8, "note 2 5 1 5");
        return run.told("note 3 4 1 9", "note 3 4 1 9", "setPaper 80 1");
    }

    /** Copy 0 of part 2 with desk 1, copy 1 with desk 0, copy 2 at home; copy 3 of part 4 with desk 1. */
    private static Run library(Run run) {
        return music(run).told("copy 2", "copy 2", "copy 2", "copy 4", "lend 0 1", "lend 1 0", "lend 3 1");
    }

    // ---- the score

    private static void bars() {
        Run run = says(14, "Returns how many bars there are.").due(0, "bars");
        for (int bar = 0; bar < 12; bar++) {
            run.told("bar 8").due(bar + 1, "bars").told("note 4 " + bar + " 8 1").due(bar + 1, "bars");
        }
        run.refused("bar 8").outOfRange("bar 0").told("empty 4 0").due(12, "bars");
    }

    private static void notes() {
        Run run = music(says(15, "Returns how many notes an instrument has in a bar."));
        run.each("notes 2 #", 0, 3, 1).each("notes # 1", 0, 0, 3, 0, 0).told("empty 2 1").due(0, "notes 2 1");
        run = music(says(15, "Returns how many."));
        for (int count = 0; count <= 8; count++) {
            run.due(count, "notes 0 2").told(count < 8 ? "note 0 2 1 0" : "bars");
        }
        run.told("mend 0 2 0 5").due(8, "notes 0 2").told("empty 0 2").due(0, "notes 0 2");
        run = music(says(15, "Throws `IndexOutOfBoundsException` if there is no such instrument or bar"));
        run.noSuch("notes 5 0", "notes -1 0", "notes 0 3", "notes 0 -1", "notes MIN 0", "notes MAX 0", "notes 0 MIN", "notes 0 MAX");
    }

    private static void noteAt() {
        Run run = music(says(16, "Returns a note.")).due(205, "noteAt 2 1 0").due(100, "noteAt 2 1 1").due(460, "noteAt 2 1 2").due(300, "noteAt 2 2 0");
        run = music(says(16, "Returns 100 times its length, and its pitch, together.")).told("bar 32", "note 0 3 32 60").due(3260, "noteAt 0 3 0");
        run.told("mend 0 3 0 0").due(3200, "noteAt 0 3 0").told("mend 0 3 0 1").due(3201, "noteAt 0 3 0").told("mend 2 1 1 9").due(109, "noteAt 2 1 1");
        run.told("empty 2 1", "note 2 1 5 7").due(507, "noteAt 2 1 0").noSuch("noteAt 2 1 1");
        run = music(says(16, "Throws `IndexOutOfBoundsException` if there is no such instrument, bar or note"));
        run.noSuch("noteAt 5 1 0", "noteAt -1 1 0", "noteAt 2 3 0", "noteAt 2 -1 0", "noteAt 2 1 3", "noteAt 2 1 -1", "noteAt 0 1 0", "noteAt 2 1 MAX");
        run.told("empty 2 1").noSuch("noteAt 2 1 0");
    }

    private static void version() {
        Run run = music(says(17, "Returns the version of a bar for an instrument.")).each("version 2 #", 0, 3, 1).each("version # 1", 0, 0, 3, 0, 0);
        run.told("mend 2 1 0 6").due(4, "version 2 1").due(1, "version 2 2").told("note 4 1 1 1").each("version # 1", 0, 0, 4, 0, 1);
        run = music(says(17, "Returns the version.")).told("empty 2 1").due(4, "version 2 1").told("empty 2 1").due(4, "version 2 1");
        run.told("mend 2 2 0 0").due(1, "version 2 2").told("mend 2 2 0 1", "mend 2 2 0 0").due(3, "version 2 2");
        run = music(says(17, "Throws `IndexOutOfBoundsException` if there is no such instrument or bar"));
        run.noSuch("version 5 0", "version -1 0", "version 0 3", "version 0 -1", "version MIN 0", "version 0 MAX");
    }

    private static void times() {
        beginnings("time", says(18, "Returns the time at which a bar begins, as it is kept."));
        neitherBar("time", says(18, "`bar`: its number, or how many there are, for the end of the last one"),
                says(18, "Throws `IndexOutOfBoundsException` if bar is neither"));
        sixteenths("time", says(18, "Returns the sixteenths from the beginning of the score on."));
        beginnings("timeByBars", says(19, "Returns the same, counted bar by bar."));
        neitherBar("timeByBars", says(19, "`bar`: its number, or how many there are"),
                says(19, "Throws `IndexOutOfBoundsException` if bar is neither"));
        sixteenths("timeByBars", says(19, "Returns the sixteenths."));
    }

    private static void beginnings(String call, Run run) {
        music(run).each(call + " #", 0, 4, 12, 28).told("note 0 0 4 1", "empty 2 1").each(call + " #", 0, 4, 12, 28);
    }

    private static void neitherBar(String call, Run number, Run none) {
        number.due(0, call + " 0").told("bar 9").due(0, call + " 0").due(9, call + " 1").noSuch(call + " 2");
        music(none).noSuch(call + " 4", call + " -1", call + " 12", call + " MIN", call + " MAX").told("bar 1").due(29, call + " 4").noSuch(call + " 5");
    }

    /** The lengths are 1, 2, 3 and so on. */
    private static void sixteenths(String call, Run run) {
        for (int bar = 0; bar < 12; bar++) {
            run.told("bar " + (bar + 1)).due(bar * (bar + 1) / 2, call + " " + bar).due((bar + 1) * (bar + 2) / 2, call + " " + (bar + 1));
        }
    }

    // ---- books

    private static void items() {
        Run run = book(says(20, "Returns how many items a book has.")).each("items #", 1, 1, 4, 3, 1, 6);
        run = book(says(20, "Returns how many.")).told("bar 8").each("items #", 1, 1, 5, 3, 1, 7).told("empty 3 4").each("items #", 1, 1, 4, 1, 1, 7);
        run.told("empty 2 0").due(2 + 1, "items 2").told("empty 2 5").due(1, "items 2");
        book(says(20, "Throws `IndexOutOfBoundsException` if there is no such book")).noSuch("items 6", "items -1", "items MIN", "items MAX");
        run = book(says(21, "Returns the item of a book to which a bar belongs.")).each("itemOf 2 #", 0, 1, 1, 1, 2, 3).each("itemOf 5 #", 0, 1, 2, 3, 4, 5);
        run = book(says(21, "Returns the number of the item.")).each("itemOf 3 #", 0, 0, 0, 0, 1, 2).each("itemOf 0 #", 0, 0, 0, 0, 0, 0);
        run.told("note 3 2 8 1").each("itemOf 3 #", 0, 0, 1, 2, 3, 4).told("note 0 0 8 1", "note 0 1 8 1").each("itemOf 0 #", 0, 1, 2, 2, 2, 2);
        run = book(says(21, "Throws `IndexOutOfBoundsException` if there is no such book or bar"));
        run.noSuch("itemOf 6 0", "itemOf -1 0", "itemOf 0 6", "itemOf 0 -1", "itemOf MAX 0", "itemOf 5 MIN", "itemOf 2 6", "itemOf 5 6");
    }

    private static void cue() {
        Run run = book(says(22, "Returns the instrument by whose notes a bar is drawn as a cue.")).each("cue 2 #", -1, -1, -1, -1, 3, -1);
        run.due(6 + 6 + 12 + 8, "width 2 2").told("note 4 4 2 1", "note 4 4 2 1", "note 4 4 2 0").due(4, "cue 2 4").due(9 + 9 + 9 + 9 + 8, "width 2 2");
        run = book(says(22, "`instrument`: 0 to 4: whose part it is")).noSuch("cue 5 4", "cue -1 4").each("cue # 4", -1, -1, 3, -1, -1);
        run.told("note 4 5 1 1", "note 0 5 1 1").each("cue # 4", 3, -1, 3, -1, 3).each("cue # 3", -1, -1, -1, -1, -1);
        run = book(says(22, "Returns the other instrument; NONE if it is no cue there.")).due(3, "cue 2 4").due(-1, "cue 2 3").due(-1, "cue 3 4");
        run.due(-1, "cue 3 3").told("note 0 3 1 1").due(-1, "cue 2 3").due(0, "cue 3 3").told("empty 3 4").due(-1, "cue 2 4").due(-1, "cue 3 3");
        run = book(says(22, "Throws `IndexOutOfBoundsException` if there is no such instrument or bar"));
        run.noSuch("cue 5 0", "cue -1 0", "cue 0 6", "cue 2 -1", "cue MIN 0", "cue MAX 0", "cue 0 MIN", "cue 0 MAX", "cue 5 6");
    }

    private static void width() {
        Run run = book(says(23, "Returns the width of an item of a book.")).each("width 2 #", 56, 32, 32, 56).each("width 5 #", 56, 23, 23, 23, 32, 56);
        run = book(says(23, "Returns the width of all its springs, and 8, together.")).told("bar 11", "note 1 6 3 1", "note 1 6 1 0");
        // Ahead of it come a rest of five bars, and bar 5 as a cue.
        run.each("width 1 #", 24 + 8, 48 + 8, 9 + 6 + 12 + 8).due(9 + 6 + 12 + 8, "width 5 6").told("note 1 6 7 9").due(9 + 6 + 12 + 8, "width 1 2");
        run = book(says(23, "Throws `IndexOutOfBoundsException` if there is no such book or item"));
        run.noSuch("width 6 0", "width -1 0", "width 2 4", "width 2 -1", "width 0 1", "width 5 6", "width MIN 0", "width 0 MAX", "width 2 MIN");
    }

    /**
     * Part 2: 56 and 32 are 88, and 32 and 56 are 88, 8 more than the paper each; the silence around the
     * turn is 32. The score's least line is 79 of 80: 56 and 23; 23, 23 and 32 are 78, and 56 the last.
     */
    private static void lines() {
        Run run = book(says(24, "Returns how many lines a book has.")).due(2, "lines 2").due(3, "lines 5").due(1, "lines 0").due(2, "lines 3");
        run = book(says(24, "Returns how many.")).told("setPaper 176 1").due(1, "lines 2").due(2, "lines 5").told("empty 2 0").due(1, "lines 2");
        says(24, "Returns how many.").due(0, "lines 2").due(0, "lines 5").told("bar 1").due(1, "lines 2").due(1, "lines 5");
        book(says(24, "Throws `IndexOutOfBoundsException` if there is no such book")).noSuch("lines 6", "lines -1", "lines MIN", "lines MAX");
        run = book(says(25, "Returns the line of a book in which a bar is.")).each("lineOf 2 #", 0, 0, 0, 0, 1, 1).each("lineOf 5 #", 0, 0, 1, 1, 1, 2);
        run = book(says(25, "Returns the line, from 0 on.")).each("lineOf 0 #", 0, 0, 0, 0, 0, 0).told("setPaper 176 6").each("lineOf 2 #", 0, 0, 0, 0, 0, 0);
        run = book(says(25, "Throws `IndexOutOfBoundsException` if there is no such book or bar"));
        run.noSuch("lineOf 6 0", "lineOf -1 0", "lineOf 0 6", "lineOf 5 6", "lineOf 5 -1", "lineOf MAX 0", "lineOf 0 MIN", "lineOf 0 MAX");
    }

    private static void cost() {
        Run run = book(says(26, "Returns the badness of all lines and the costs of all turns of a book, together.")).due(256 + 256, "cost 2").due(1 + 4, "cost 5");
        run = book(says(26, "Returns the sum.")).told("note 2 4 2 5", "note 2 1 1 5").due(0, "cost 0").told("setPaper 500 1").each("cost #", 0, 0, 0, 0, 0, 0);
        book(says(26, "Throws `IndexOutOfBoundsException` if there is no such book")).noSuch("cost 6", "cost -1", "cost MIN", "cost MAX");
        run = book(says(27, "Returns the same, by trying all ways to break the book.")).due(512, "costByAll 2").due(5, "costByAll 5").due(0, "costByAll 4");
        run = book(says(27, "Returns the sum.")).told("bar 8", "bar 8").times(8, "note 2 6 1 5").times(8, "note 2 7 1 5");
        // 88, 88 and 56 lack 24 beside the last one, and two turns around which there is no silence.
        run.due(512 + 576 + 3200, "costByAll 2").due(512 + 576 + 3200, "cost 2").told("setPaper 80 2").due(512 + 576 + 1600, "costByAll 2");
        book(says(27, "Throws `IndexOutOfBoundsException` if there is no such book")).noSuch("costByAll 6", "costByAll -1", "costByAll MIN", "costByAll MAX");
    }

    private static void turns() {
        Run run = says(28, "Returns the costs of all turns of a book, together.").told("setPaper 80 1");
        for (int bar = 0; bar < 4; bar++) {
            run.told("bar 8").times(8, "note 1 " + bar + " 1 5").due(1600 * bar, "turns 1").due(0, "turns 5").due(0, "turns 0");
        }
        run.told("mend 1 1 7 0").due(4700, "turns 1").told("mend 1 2 0 0").due(4600, "turns 1").told("mend 1 0 0 0", "mend 1 3 7 0").due(4600, "turns 1");
        run = book(says(28, "Returns the sum.")).due(0, "turns 2").due(2, "lines 2").told("mend 2 0 0 0").due(0, "turns 2").due(0, "turns 5");
        run.told("note 2 4 1 9").due(2, "lines 2").due(0, "turns 2").told("setPaper 80 6").due(0, "turns 2");
        book(says(28, "Throws `IndexOutOfBoundsException` if there is no such book")).noSuch("turns 6", "turns -1", "turns MIN", "turns MAX");
    }

    private static void place() {
        Run run = book(says(29, "Returns where a spring is in its line.")).due(4, "place 2 0 0").due(4, "place 2 4 0").due(4, "place 5 0 0").due(4, "place 5 2 0");
        // 56 and 32 are 8 more, of 8 and 8 above the least widths: 8 of eight springs, and 8 of a rest.
        run.due(4 + 42 - 8 * 7 / 16, "place 2 0 7").due(8 + 4 + 48 - 8 * 8 / 16, "place 2 1 0");
        run = book(says(29, "`at`: the sixteenth of the bar at which the spring begins")).due(4, "place 2 4 0").noSuch("place 2 4 3", "place 2 4 8", "place 2 4 -1");
        // The cue's springs of 6, 6 and 12 can be shrunk by 1, 1 and 8, and the last bar's by 8.
        run.due(4 + 6 - 8 * 1 / 18, "place 2 4 1").due(4 + 12 - 8 * 2 / 18, "place 2 4 2").due(8 + 4 + 24 - 8 * 10 / 18, "place 2 5 0");
        run = book(says(29, "Returns how far it is from the beginning of the line.")).told("setPaper 500 1").due(4, "place 2 0 0").due(4 + 42, "place 2 0 7");
        run.due(56 + 4, "place 2 1 0").due(88 + 4, "place 2 4 0").due(88 + 4 + 12, "place 2 4 2").due(120 + 4, "place 2 5 0").due(56 + 23 + 4, "place 5 2 0");
        run = book(says(29, "Throws `IndexOutOfBoundsException` if there is no such book or bar, or no spring begins there"));
        run.noSuch("place 6 0 0", "place -1 0 0", "place 2 6 0", "place 2 -1 0", "place 2 0 8", "place 2 0 -1", "place 2 2 0", "place 2 3 0", "place 2 1 1");
        run.noSuch("place 5 1 1", "place 0 1 0", "place MIN 0 0", "place 0 MAX 0", "place 5 0 MAX", "place 5 0 MIN", "place 5 0 31", "place 5 0 32");
    }

    // ---- copies

    private static void copies() {
        Run run = says(30, "Returns how many copies there are.").due(0, "copies").told("copy 4").due(1, "copies").told("copy 4", "copy 0").due(3, "copies");
        run.told("lend 0 0", "giveBack 0").due(3, "copies").noSuch("copy 5").due(3, "copies").times(13, "copy 1").due(16, "copies").refused("copy 1").due(16, "copies");
        run = library(says(31, "Returns the desk that has a copy.")).due(1, "deskOf 0").due(0, "deskOf 1").due(1, "deskOf 3").told("lend 2 5").due(5, "deskOf 2");
        run = library(says(31, "Returns the desk; NONE if it is at home.")).due(-1, "deskOf 2").told("giveBack 0").due(-1, "deskOf 0").told("lend 0 4").due(4, "deskOf 0");
        run = library(says(31, "Throws `IndexOutOfBoundsException` if there is no such copy")).noSuch("deskOf 4", "deskOf -1", "deskOf 16", "deskOf MIN", "deskOf MAX");
    }

    private static void has() {
        Run run = library(says(32, "Returns the version of a bar that a copy has.")).each("has 0 #", 0, 3, 1).each("has 3 #", 0, 0, 0).told("mend 2 1 0 9");
        run.each("has 0 #", 0, 3, 1).each("has 2 #", 0, 4, 1).told("paste 0").each("has 0 #", 0, 4, 1).each("has 1 #", 0, 3, 1);
        run = library(says(32, "Returns the version; NONE if it lacks the bar.")).told("bar 4").due(-1, "has 0 3").due(-1, "has 3 3").due(0, "has 2 3");
        run.told("note 2 3 4 1").due(-1, "has 0 3").due(1, "has 2 3").told("paste 0", "giveBack 1").due(1, "has 0 3").due(1, "has 1 3").due(-1, "has 3 3");
        run = library(says(32, "Throws `IndexOutOfBoundsException` if there is no such copy or bar"));
        run.noSuch("has 4 0", "has -1 0", "has 0 3", "has 0 -1", "has 2 3", "has MIN 0", "has MAX 0", "has 0 MIN", "has 0 MAX");
    }

    private static void owed() {
        Run run = library(says(33, "Returns how many bars a copy owes.")).each("owed #", 0, 0, 0, 0).told("mend 2 1 0 9").each("owed #", 1, 1, 0, 0);
        run.told("bar 4").each("owed #", 2, 2, 0, 1).told("note 2 0 1 1", "mend 2 1 0 5", "mend 2 1 0 9").each("owed #", 3, 3, 0, 1);
        run = library(says(33, "Returns how many; 0 if it is at home.")).told("bar 4", "empty 2 2", "giveBack 0").each("owed #", 0, 2, 0, 1);
        run.told("paste 1").each("owed #", 0, 0, 0, 1).times(8, "bar 1").each("owed #", 0, 8, 0, 9).told("giveBack 3").each("owed #", 0, 8, 0, 0);
        run = library(says(33, "Throws `IndexOutOfBoundsException` if there is no such copy")).noSuch("owed 4", "owed -1", "owed 16", "owed MIN", "owed MAX");
    }

    private static void marks() {
        Run run = library(says(34, "Returns the mark of a desk, old or not.")).told("mark 0 1 7").due(7, "markOf 1 2 1").told("mend 2 1 0 9").due(1, "oldMarks 1");
        run.due(7, "markOf 1 2 1").told("giveBack 0").due(7, "markOf 1 2 1").told("empty 2 1").due(7, "markOf 1 2 1").due(0, "markOf 0 2 1").due(0, "markOf 1 4 1");
        run = library(says(34, "Returns 1 to 9; 0 for none."));
        for (int sign = 0; sign <= 9; sign++) {
            run.told("mark 3 2 " + sign).due(sign, "markOf 1 4 2").due(0, "markOf 1 4 1").due(0, "markOf 1 2 2");
        }
        run = library(says(34, "Throws `IndexOutOfBoundsException` if there is no such desk, instrument or bar"));
        run.noSuch("markOf 6 0 0", "markOf -1 0 0", "markOf 0 5 0", "markOf 0 -1 0", "markOf 0 0 3", "markOf 0 0 -1", "markOf MIN 0 0", "markOf 0 MAX 0", "markOf 0 0 MAX");
        run = library(says(35, "Returns how many marks of a desk are old.")).told("mark 0 0 1", "mark 0 1 2", "mark 3 1 3", "mark 1 1 4").each("oldMarks #", 0, 0, 0, 0, 0, 0);
        run.told("mend 2 1 0 9").each("oldMarks #", 1, 1, 0, 0, 0, 0).told("note 4 1 1 1").each("oldMarks #", 1, 2, 0, 0, 0, 0);
        run = library(says(35, "Returns how many.")).told("mark 0 0 1", "mark 0 1 2", "mark 0 2 3", "note 2 0 1 1", "empty 2 1", "mend 2 2 0 5").due(3, "oldMarks 1");
        run.told("mark 0 1 0").due(2, "oldMarks 1").told("paste 0").due(2, "oldMarks 1").told("mark 0 0 1").due(1, "oldMarks 1").told("giveBack 0").due(1, "oldMarks 1");
        run = library(says(35, "Throws `IndexOutOfBoundsException` if there is no such desk")).noSuch("oldMarks 6", "oldMarks -1", "oldMarks MIN", "oldMarks MAX");
    }

    private static void clashes() {
        Run run = library(says(36, "Returns at how many notes of an instrument desks of a stand clash.")).told("bow 0 1 0 1", "bow 1 1 0 2").due(1, "clashes 2");
        run.told("bow 0 1 2 2", "bow 1 1 2 1", "bow 0 2 0 1", "bow 1 2 0 2").due(3, "clashes 2").due(0, "clashes 4").told("mend 2 1 0 9").due(1, "clashes 2");
        run = says(36, "Returns how many, of all three stands, each for itself.").told("bar 8", "note 4 0 8 5");
        for (int desk = 0; desk <= 5; desk++) {
            run.told("copy 4", "lend " + desk + " " + desk, "bow " + desk + " 0 0 " + (1 + desk % 2)).due((desk + 1) / 2, "clashes 4");
        }
        run.each("clashes #", 0, 0, 0, 0, 3).told("bow 2 0 0 0").due(2, "clashes 4").told("giveBack 0", "giveBack 1").due(2, "clashes 4");
        run = library(says(36, "Throws `IndexOutOfBoundsException` if there is no such instrument")).noSuch("clashes 5", "clashes -1", "clashes MIN", "clashes MAX");
        run = library(says(37, "Returns how many concerts were played.")).due(0, "concerts").told("play").due(1, "concerts").told("play", "play").due(3, "concerts");
        run.told("bar 4").refused("play").due(3, "concerts").told("giveBack 0", "giveBack 1", "giveBack 3").refused("play").due(3, "concerts");
        run.told("lend 2 2").due(1, "play").due(4, "concerts");
    }

    public static void main(String[] args) {
        bars();
        notes();
        noteAt();
        version();
        times();
        items();
        cue();
        width();
        lines();
        cost();
        turns();
        place();
        copies();
        has();
        owed();
        marks();
        clashes();
        CHECK.end("PromisesAskedTest");
    }
}
