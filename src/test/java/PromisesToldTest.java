/**
 * The promises 1 to 13, line by line and in the document's order: a call that is not answered as
 * due names the promise and its line. TermsTest says what stands ahead of them, PromisesAskedTest
 * goes on.
 */
public final class PromisesToldTest {
    private static final Check CHECK = new Check();

    private static Run says(int promise, String line) {
        return new Run(CHECK, "Promise " + promise + ": " + line);
    }

    /** Three bars of 8; instrument 2 has three notes in bar 0, and one rest in bar 1. */
    private static Run music(Run run) {
        return run.told("bar 8", "bar 8", "bar 8", "note 2 0 2 5", "note 2 0 1 0", "note 2 0 4 60", "note 2 1 3 0");
    }

    /** Besides, copy 0 of part 2 with desk 1, copy 1 with desk 0, copy 2 at home; copy 3 of part 4 with desk 1. */
    private static Run library(Run run) {
        return music(run).told("copy 2", "copy 2", "copy 2", "copy 4", "lend 0 1", "lend 1 0", "lend 3 1");
    }

    // ---- the score

    private static void newObject() {
        Run run = says(1, "No bars, no copies.").due(0, "bars").due(0, "copies").noSuch("notes 0 0", "deskOf 0").due(0, "time 0").due(0, "concerts");
        run.each("items #", 0, 0, 0, 0, 0, 0).each("cost #", 0, 0, 0, 0, 0, 0).noSuch("items 6").refused("play");
        run.due(0, "bar 8").due(0, "copy 0");
    }

    private static void bar() {
        Run run = says(2, "Adds a bar without notes.").due(0, "bar 8").due(1, "bars").each("notes # 0", 0, 0, 0, 0, 0).noSuch("noteAt 0 0 0");
        run.told("note 0 0 8 1").due(1, "bar 4").due(2, "bars").each("notes # 1", 0, 0, 0, 0, 0).due(1, "notes 0 0").each("version # 1", 0, 0, 0, 0, 0);
        says(2, "`length`: 1 to 32").due(0, "bar 1").due(1, "bar 32").outOfRange("bar 0", "bar 33", "bar MIN", "bar MAX").due(33, "time 2");
        Run number = says(2, "Returns its number.");
        for (int bar = 0; bar < 12; bar++) {
            number.due(bar, "bar " + (1 + 31 * (bar % 2)));
        }
        says(2, "Throws `IllegalArgumentException` if length is out of range").outOfRange("bar 0", "bar 33").due(0, "bars").due(0, "bar 7");
        says(2, "Throws `IllegalStateException` if there are 12").times(12, "bar 8").refused("bar 1", "bar 32").due(12, "bars").outOfRange("bar 33");
    }

    private static void note() {
        Run run = says(3, "Adds a note behind those of an instrument in a bar.").told("bar 8", "bar 8", "note 4 1 2 7").due(207, "noteAt 4 1 0");
        run.told("note 4 1 3 0", "note 4 1 1 60").due(207, "noteAt 4 1 0").due(300, "noteAt 4 1 1").due(160, "noteAt 4 1 2").due(0, "notes 4 0");
        run.due(0, "notes 3 1").due(36, "place 4 1 0").due(45, "place 4 1 2").due(54, "place 4 1 5").due(60, "place 4 1 6");
        Run count = says(3, "Returns how many notes it has there then.").told("bar 8").due(1, "note 1 0 1 5").due(1, "note 2 0 1 5");
        for (int i = 2; i <= 8; i++) {
            count.due(i, "note 1 0 1 " + i % 2);
        }
        count.due(8, "empty 1 0").due(1, "note 1 0 8 5");
        Run none = music(says(3, "Throws `IndexOutOfBoundsException` if there is no such instrument or bar"));
        none.noSuch("note 5 0 1 1", "note -1 0 1 1", "note 0 3 1 1", "note 0 -1 1 1", "note MIN 0 1 1", "note 0 MAX 1 1", "note 0 3 0 61");
        Run range = music(says(3, "Throws `IllegalArgumentException` if length or pitch is out of range"));
        range.outOfRange("note 0 0 0 1", "note 0 0 33 1", "note 0 0 1 -1", "note 0 0 1 61", "note 0 0 MIN 1", "note 0 0 1 MAX", "note 0 0 33 61");
        range.due(1, "note 0 0 8 0").outOfRange("note 0 0 1 61", "note 0 0 0 0").due(1, "note 1 0 1 60").told("bar 32").due(1, "note 1 3 32 1");
        Run full = says(3, "Throws `IllegalStateException` if it has 8 notes there, or they would be longer than the bar").told("bar 8", "bar 32");
        full.times(8, "note 3 1 1 1").refused("note 3 1 1 1", "note 3 1 24 0").due(8, "notes 3 1").told("note 3 0 3 1").refused("note 3 0 6 1");
        full.due(2, "note 3 0 5 1").refused("note 3 0 1 1", "note 3 0 32 0", "note 2 0 9 1").due(1, "note 2 0 8 1").due(2, "notes 3 0");
    }

    private static void mend() {
        Run run = music(says(4, "Mends a note: it gets another pitch; the same one is no change.")).told("mend 2 0 1 9").due(109, "noteAt 2 0 1");
        run.due(205, "noteAt 2 0 0").due(460, "noteAt 2 0 2").due(4, "version 2 0").told("mend 2 0 1 9").due(4, "version 2 0").due(109, "noteAt 2 0 1");
        run.told("mend 2 0 2 0").due(400, "noteAt 2 0 2").due(5, "version 2 0").due(1, "version 2 1").due(3, "notes 2 0").due(300, "noteAt 2 1 0");
        Run had = music(says(4, "Returns the pitch that it had.")).due(5, "mend 2 0 0 6").due(6, "mend 2 0 0 6").due(6, "mend 2 0 0 0");
        had.due(0, "mend 2 0 0 60").due(60, "mend 2 0 2 60").due(0, "mend 2 0 1 1").due(0, "mend 2 1 0 0").due(60, "mend 2 0 0 5");
        Run none = music(says(4, "Throws `IndexOutOfBoundsException` if there is no such instrument, bar or note"));
        none.noSuch("mend 5 0 0 1", "mend -1 0 0 1", "mend 2 3 0 1", "mend 2 -1 0 1", "mend 2 0 3 1", "mend 2 0 -1 1", "mend 0 0 0 1", "mend 2 1 1 61");
        Run range = music(says(4, "Throws `IllegalArgumentException` if pitch is out of range"));
        range.outOfRange("mend 2 0 0 61", "mend 2 0 0 -1", "mend 2 1 0 MAX", "mend 2 1 0 MIN").due(5, "mend 2 0 0 60").due(60, "mend 2 0 0 0");
    }

    private static void empty() {
        Run run = music(says(5, "Takes all notes of an instrument out of a bar; without any that is no change.")).told("note 1 0 8 1", "empty 2 0");
        run.due(0, "notes 2 0").noSuch("noteAt 2 0 0", "mend 2 0 0 1").due(4, "version 2 0").due(1, "notes 2 1").due(1, "notes 1 0").due(1, "version 2 1");
        run.told("empty 2 0").due(4, "version 2 0").told("empty 0 2").due(0, "version 0 2").due(1, "note 2 0 8 9").due(809, "noteAt 2 0 0");
        music(says(5, "Returns how many there were.")).due(3, "empty 2 0").due(0, "empty 2 0").due(1, "empty 2 1").due(0, "empty 2 2").due(0, "empty 4 0");
        Run none = music(says(5, "Throws `IndexOutOfBoundsException` if there is no such instrument or bar"));
        none.noSuch("empty 5 0", "empty -1 0", "empty 2 3", "empty 2 -1", "empty MIN 0", "empty 0 MAX", "empty 5 3").due(3, "empty 2 0");
    }

    private static void setPaper() {
        Run run = says(6, "Sets the paper.");
        for (int bar = 0; bar < 4; bar++) {
            run.told("bar 8").times(8, "note 3 " + bar + " 1 5");
        }
        // Lines of one bar each lack 24, and a turn costs 1600; 56 by four are 224, or 112 by two.
        run.told("setPaper 80 1").due(4, "lines 3").due(3 * 576 + 4800, "cost 3").told("setPaper 80 2").due(3 * 576 + 1600, "cost 3");
        run.told("setPaper 81 6").due(3 * 625, "cost 3").told("setPaper 224 1").due(1, "lines 3").due(0, "cost 3").due(224, "setPaper 112 1");
        run.due(2, "lines 3").due(1600, "cost 3").due(112, "setPaper 112 2").due(0, "cost 3");
        Run width = says(6, "`width`: 80 to 500").outOfRange("setPaper 79 1", "setPaper 501 1", "setPaper MIN 1", "setPaper MAX 1");
        width.due(200, "setPaper 80 1").due(80, "setPaper 500 1").due(500, "setPaper 200 1");
        Run lines = says(6, "`lines`: 1 to 6: of a page").outOfRange("setPaper 80 0", "setPaper 80 7", "setPaper 80 MIN", "setPaper 80 MAX");
        lines.due(200, "setPaper 80 1").due(80, "setPaper 80 6");
        says(6, "Returns the width that it had.").due(200, "setPaper 100 1").due(100, "setPaper 100 2").due(100, "setPaper 99 3").due(99, "setPaper 500 6");
        Run range = says(6, "Throws `IllegalArgumentException` if width or lines is out of range").told("bar 8");
        range.outOfRange("setPaper 79 0", "setPaper 501 7", "setPaper 79 3", "setPaper 200 0").due(200, "setPaper 81 1").due(81, "setPaper 82 6");
    }

    // ---- copies

    private static void copy() {
        Run run = says(7, "Makes a copy of a part.").told("bar 8", "note 3 0 8 1", "copy 3", "copy 1").due(2, "copies").due(1, "has 0 0").due(0, "has 1 0");
        run.due(-1, "deskOf 0").due(1, "lend 0 0").due(2, "lend 1 0").told("empty 3 0").due(1, "owed 0").due(0, "owed 1");
        Run number = says(7, "Returns the number of the copy.");
        for (int copy = 0; copy < 16; copy++) {
            number.due(copy, "copy " + copy % 3);
        }
        Run none = says(7, "Throws `IndexOutOfBoundsException` if there is no such instrument").noSuch("copy 5", "copy -1", "copy MIN", "copy MAX");
        none.due(0, "copies").due(0, "copy 4").due(1, "copy 0").noSuch("copy 5").due(2, "copies");
        Run full = says(7, "Throws `IllegalStateException` if there are 16").times(16, "copy 4").refused("copy 0", "copy 4").due(16, "copies").noSuch("copy 5");
        full.told("lend 3 3").refused("copy 1");
    }

    private static void lend() {
        Run run = library(says(8, "Lends a copy to a desk.")).due(1, "deskOf 0").due(0, "deskOf 1").due(-1, "deskOf 2").told("lend 2 5").due(5, "deskOf 2");
        run.due(0, "owed 2").due(3, "has 2 0").told("mark 2 0 7").due(7, "markOf 5 2 0").due(1, "deskOf 0");
        Run count = library(says(8, "Returns how many copies are with desks then.")).due(4, "lend 2 2").told("giveBack 0", "giveBack 1").due(3, "lend 0 1");
        count.told("copy 0", "copy 0").due(4, "lend 4 1").due(5, "lend 5 2").told("giveBack 3").due(5, "lend 1 5");
        says(8, "Returns how many copies are with desks then.").times(6, "copy 3").each("lend # #", 1, 2, 3, 4, 5, 6);
        Run all = says(8, "Returns how many copies are with desks then.");
        for (int copy = 0; copy < 16; copy++) {
            all.told("copy " + copy % 5).due(copy + 1, "lend " + copy + " " + copy / 5);
        }
        Run none = library(says(8, "Throws `IndexOutOfBoundsException` if there is no such copy or desk"));
        none.noSuch("lend 4 0", "lend -1 0", "lend 2 6", "lend 2 -1", "lend MIN 0", "lend 2 MAX", "lend 0 6", "lend 4 6").due(4, "lend 2 5");
        Run state = library(says(8, "Throws `IllegalStateException` if the copy is with a desk, or the desk has one of this instrument"));
        state.refused("lend 0 1", "lend 0 0", "lend 0 3", "lend 2 0", "lend 2 1", "lend 3 0").due(4, "lend 2 2").told("giveBack 3").due(4, "lend 3 1");
    }

    private static void giveBackAndPaste() {
        Run given = library(says(9, "Gives a copy back.")).told("giveBack 0").due(-1, "deskOf 0").due(0, "deskOf 1").due(2, "play").due(3, "lend 2 1");
        given.told("bar 1").due(0, "has 0 3").due(0, "owed 0");
        Run owed = library(says(9, "Returns how many bars it owed.")).told("mend 2 0 0 6", "mend 2 0 0 7", "bar 4").due(2, "giveBack 0").due(2, "giveBack 1");
        owed.due(1, "giveBack 3").due(1, "lend 0 1").due(0, "giveBack 0").told("lend 0 1", "empty 2 0", "empty 2 1", "note 2 3 4 1").due(3, "giveBack 0");
        library(says(9, "Throws `IndexOutOfBoundsException` if there is no such copy")).noSuch("giveBack 4", "giveBack -1", "giveBack MIN", "giveBack MAX");
        library(says(9, "Throws `IllegalStateException` if it is at home")).refused("giveBack 2").told("giveBack 0").refused("giveBack 0").due(0, "giveBack 1");
        Run pasted = library(says(10, "Pastes all bars that a copy owes, at its desk.")).told("mend 2 0 0 6", "bar 4", "mark 0 0 3", "paste 0").due(0, "owed 0");
        pasted.due(1, "deskOf 0").due(4, "has 0 0").due(1, "has 0 1").due(0, "has 0 3").due(2, "owed 1").due(3, "has 1 0").due(-1, "has 1 3").due(1, "oldMarks 1");
        Run were = library(says(10, "Returns how many there were.")).due(0, "paste 0").told("mend 2 0 0 6", "note 2 2 1 1").due(2, "paste 0").due(0, "paste 0");
        were.told("bar 1").due(1, "paste 0").due(3, "paste 1").due(1, "paste 3").due(0, "paste 3");
        library(says(10, "Throws `IndexOutOfBoundsException` if there is no such copy")).noSuch("paste 4", "paste -1", "paste MIN", "paste MAX");
        library(says(10, "Throws `IllegalStateException` if it is at home")).refused("paste 2").told("giveBack 0").refused("paste 0").due(0, "paste 1");
    }

    private static void mark() {
        Run run = library(says(11, "Lets the desk that has a copy mark a bar, for the version of it that the copy has.")).told("mend 2 0 0 6");
        run.told("mark 0 0 4").due(4, "markOf 1 2 0").due(1, "oldMarks 1").due(0, "markOf 0 2 0").due(0, "markOf 1 4 0").told("paste 0", "mark 0 0 4").due(0, "oldMarks 1");
        run.told("mark 0 2 1").due(1, "markOf 1 2 2").due(0, "oldMarks 1").told("empty 2 0").due(1, "oldMarks 1").told("mark 3 0 9").due(9, "markOf 1 4 0");
        Run sign = library(says(11, "`sign`: 1 to 9; 0 for none")).outOfRange("mark 0 0 10", "mark 0 0 -1", "mark 0 0 MIN", "mark 0 0 MAX").told("mark 0 0 9");
        sign.due(9, "markOf 1 2 0").told("mark 0 0 1").due(1, "markOf 1 2 0").told("mark 0 0 0").due(0, "markOf 1 2 0").told("empty 2 0").due(0, "oldMarks 1");
        Run had = library(says(11, "Returns the mark that the desk had there; 0 for none.")).due(0, "mark 0 0 5").due(0, "mark 1 0 6").due(5, "mark 0 0 9");
        had.due(0, "mark 0 1 1").due(9, "mark 0 0 0").due(0, "mark 0 0 2").told("mend 2 0 0 6").due(2, "mark 0 0 3").told("paste 0").due(3, "mark 0 0 4");
        Run none = library(says(11, "Throws `IndexOutOfBoundsException` if there is no such copy or bar"));
        none.noSuch("mark 4 0 1", "mark -1 0 1", "mark 0 3 1", "mark 0 -1 1", "mark 2 3 1", "mark 4 0 10", "mark 4 3 10", "mark 0 MAX 1", "mark MIN 0 1");
        Run range = library(says(11, "Throws `IllegalArgumentException` if sign is out of range")).outOfRange("mark 0 0 10", "mark 2 0 10", "mark 2 0 -1");
        range.told("bar 1").outOfRange("mark 0 3 10", "mark 0 3 -1").due(0, "markOf 1 2 0");
        Run state = library(says(11, "Throws `IllegalStateException` if the copy is at home, or lacks the bar")).refused("mark 2 0 1", "mark 2 0 0").told("bar 1");
        state.refused("mark 0 3 1", "mark 0 3 0", "mark 2 3 1").told("giveBack 1").refused("mark 1 0 1").told("mend 2 0 0 6").due(0, "mark 0 0 1");
        state.told("paste 0").due(0, "mark 0 3 1");
    }

    private static void bow() {
        Run run = library(says(12, "Lets the desk that has a copy bow a note.")).told("bow 0 0 0 1", "bow 1 0 0 2").due(1, "clashes 2").told("bow 1 0 2 1");
        run.due(1, "clashes 2").told("bow 0 0 2 2").due(2, "clashes 2").told("bow 0 1 0 1").due(2, "clashes 2").told("bow 0 0 0 2").due(1, "clashes 2");
        Run how = library(says(12, "`how`: 1 up, 2 down; 0 for none")).outOfRange("bow 0 0 0 3", "bow 0 0 0 -1", "bow 0 0 0 MIN", "bow 0 0 0 MAX");
        how.told("bow 0 0 0 2", "bow 1 0 0 1").due(1, "clashes 2").told("bow 1 0 0 0").due(0, "clashes 2").told("bow 1 0 0 2").due(0, "clashes 2");
        Run had = library(says(12, "Returns the bowing that counted for the desk there; 0 for none.")).due(0, "bow 0 0 1 1").due(1, "bow 0 0 1 2").due(2, "bow 0 0 1 0");
        had.due(0, "bow 0 0 1 2").due(0, "bow 0 0 0 1").due(0, "bow 1 0 1 1").due(0, "bow 0 1 0 1").told("mend 2 0 2 1", "paste 0").due(0, "bow 0 0 1 2");
        had.due(0, "bow 0 0 0 0").due(2, "bow 0 0 1 1").due(1, "bow 0 1 0 2").told("giveBack 0", "lend 2 1").due(1, "bow 2 0 1 0");
        Run none = library(says(12, "Throws `IndexOutOfBoundsException` if there is no such copy, bar or note"));
        none.noSuch("bow 4 0 0 1", "bow -1 0 0 1", "bow 0 3 0 1", "bow 0 -1 0 1", "bow 0 0 3 1", "bow 0 0 -1 1", "bow 2 0 3 1", "bow 0 2 0 3", "bow 3 0 0 1");
        Run range = library(says(12, "Throws `IllegalArgumentException` if how is out of range")).outOfRange("bow 0 0 0 3", "bow 2 0 0 3", "bow 2 0 0 -1");
        range.told("mend 2 0 0 9").outOfRange("bow 0 0 0 3", "bow 0 0 0 -1");
        Run state = library(says(12, "Throws `IllegalStateException` if the copy is at home, or owes the bar")).refused("bow 2 0 0 1", "bow 2 0 0 0");
        state.told("mend 2 0 0 9", "bar 4", "note 2 3 4 1").refused("bow 0 0 0 1", "bow 0 0 0 0", "bow 0 3 0 1").due(0, "bow 0 1 0 1").told("paste 0");
        state.due(0, "bow 0 0 0 1").due(0, "bow 0 3 0 1").refused("bow 1 0 0 1").told("giveBack 0").refused("bow 0 0 0 1");
    }

    private static void play() {
        Run run = library(says(13, "Plays a concert from all copies that are with desks.")).due(3, "play").due(1, "concerts").due(3, "play").due(2, "concerts");
        run.told("giveBack 3", "note 4 0 1 1").due(2, "play").due(3, "concerts").due(1, "deskOf 0").due(0, "deskOf 1");
        Run count = library(says(13, "Returns how many copies these are.")).due(3, "play").told("lend 2 2").due(4, "play").told("giveBack 0", "giveBack 1").due(2, "play");
        count.told("giveBack 2", "giveBack 3").refused("play");
        Run state = says(13, "Throws `IllegalStateException` if none is, or one of them owes a bar").refused("play").told("copy 2").refused("play");
        state.told("lend 0 4").due(1, "play").told("giveBack 0").refused("play").due(1, "concerts");
        Run owing = library(says(13, "Throws `IllegalStateException` if none is, or one of them owes a bar")).told("note 4 2 1 1").refused("play");
        owing.told("paste 3").due(3, "play").told("mend 2 1 0 5").refused("play").told("paste 1").refused("play").told("giveBack 0").due(2, "play");
        owing.told("bar 1").refused("play").told("paste 1", "paste 3").due(2, "play").due(3, "concerts");
    }

    public static void main(String[] args) {
        newObject();
        bar();
        note();
        mend();
        empty();
        setPaper();
        copy();
        lend();
        giveBackAndPaste();
        mark();
        bow();
        play();
        CHECK.end("PromisesToldTest");
    }
}
