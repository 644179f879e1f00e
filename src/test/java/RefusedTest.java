/**
 * "A call that throws an exception changes nothing. If several apply, the one that the throws
 * clause names first is thrown." And what is asked changes nothing. Run looks behind each throw.
 */
public final class RefusedTest {
    private static final Check CHECK = new Check();

    /** Bar 0 of 8 is full of 8 notes, bar 1 of 32 has 8 and room; bar 2 has none, nor has bar 3. */
    private static Run music(String about) {
        Run run = new Run(CHECK, about).told("bar 8", "bar 32", "bar 4", "bar 1");
        return run.times(8, "note 0 0 1 7").times(8, "note 0 1 1 7").told("note 1 0 8 9");
    }

    /** Copy 0 is at home, 1 owes bar 0 and lacks bar 4, 2 owes nothing; desk 2 has marks and bowings. */
    private static Run library(String about) {
        Run run = music(about).told("copy 0", "copy 0", "copy 1", "copy 0");
        run.told("lend 1 2", "lend 3 3", "mark 1 0 4", "mark 1 1 5", "bow 1 0 0 1", "bow 1 1 1 2", "bow 3 1 1 1");
        run.told("bow 1 1 0 2", "bow 3 1 0 2", "giveBack 3", "mend 0 0 0 8", "bar 2", "note 0 4 2 3", "lend 2 2");
        return run.told("setPaper 80 1");
    }

    private static void bar() {
        Run run = music("2, which first").times(8, "bar 1");
        run.refused("bar 1", "bar 32").outOfRange("bar 0", "bar 33", "bar -1", "bar MIN", "bar MAX");
        run.due(12, "bars").due(53, "time 12");
    }

    private static void note() {
        Run run = music("3, which first");
        // No such index goes ahead of a wrong value, and this ahead of a bar that has no room.
        run.noSuch("note 5 0 0 1", "note 5 0 1 61", "note 0 4 33 1", "note 0 4 1 -1", "note -1 -1 0 -1");
        run.noSuch("note 5 0 1 1", "note -1 0 9 1", "note 5 1 0 61", "note MIN 0 MIN MIN", "note 0 MAX MAX MAX");
        run.outOfRange("note 0 0 0 1", "note 0 0 33 1", "note 0 0 1 61", "note 0 0 1 -1", "note 0 0 9 61");
        run.outOfRange("note 0 1 0 1", "note 0 1 1 61", "note 1 0 1 61", "note 1 0 MAX 1", "note 1 0 MIN 1");
        run.outOfRange("note 2 2 5 61", "note 2 2 33 1", "note 2 2 MAX 0", "note 2 2 1 MAX", "note 2 2 1 MIN");
        // 8 notes in a full bar, 8 notes with room, a full bar of one note, a note too long by one.
        run.refused("note 0 0 1 1", "note 0 0 32 0", "note 0 1 1 1", "note 0 1 25 1", "note 1 0 1 0");
        run.refused("note 2 2 5 1", "note 2 2 32 1", "note 4 3 2 60");
        run.due(1, "note 2 2 4 1").due(1, "note 4 3 1 60");
    }

    private static void mend() {
        Run run = music("4, which first");
        run.noSuch("mend 5 0 0 61", "mend 0 4 0 61", "mend 0 0 8 61", "mend 1 0 1 -1", "mend 0 2 0 61");
        run.noSuch("mend -1 -1 -1 -1", "mend MIN 0 0 1", "mend 0 MAX 0 1", "mend 0 0 MIN 1", "mend 0 0 MAX 1");
        run.outOfRange("mend 0 0 0 61", "mend 0 0 7 -1", "mend 0 0 0 MIN", "mend 0 0 0 MAX");
    }

    private static void empty() {
        Run run = library("5, refused");
        run.noSuch("empty 5 0", "empty -1 0", "empty 0 5", "empty 0 -1", "empty MIN MIN", "empty MAX MAX");
        run.unchangedBehind("empty 0 2").unchangedBehind("empty 4 4");
    }

    /** Two lines of one bar each, and a turn between them only where a page has one line. */
    private static void setPaper() {
        Run run = new Run(CHECK, "6, refused").told("bar 8", "bar 8").times(8, "note 0 0 1 1").times(8, "note 0 1 1 1");
        run.due(200, "setPaper 81 2").due(625, "cost 0").due(0, "turns 0");
        run.outOfRange("setPaper 79 1", "setPaper 501 1", "setPaper MIN 1", "setPaper MAX 1");
        run.outOfRange("setPaper 90 0", "setPaper 90 7", "setPaper 90 MIN", "setPaper 90 MAX", "setPaper 79 7");
        run.due(625, "cost 0").due(0, "turns 0").due(2, "lines 0");
        run.due(81, "setPaper 82 1").due(676 + 1600, "cost 0").due(1600, "turns 0");
        run.outOfRange("setPaper 79 2", "setPaper 501 2", "setPaper 100 0", "setPaper 100 7", "setPaper 0 0");
        run.due(676 + 1600, "cost 0").due(1600, "turns 0").due(82, "setPaper 80 6");
    }

    private static void copy() {
        Run run = music("7, which first").times(16, "copy 3");
        run.noSuch("copy 5", "copy -1", "copy MIN", "copy MAX").refused("copy 0", "copy 4").due(16, "copies");
    }

    private static void lend() {
        Run run = library("8, which first");
        run.noSuch("lend 1 6", "lend 2 -1", "lend 4 2", "lend -1 2", "lend 4 6", "lend MIN MAX", "lend MAX MIN");
        run.refused("lend 1 2", "lend 1 0", "lend 0 2", "lend 2 2", "lend 2 5");
        run.due(2, "deskOf 1").due(-1, "deskOf 0").due(3, "lend 0 0");
    }

    private static void giveBackAndPaste() {
        Run run = library("9 and 10, refused");
        run.noSuch("giveBack 4", "giveBack -1", "giveBack MIN", "giveBack MAX");
        run.noSuch("paste 4", "paste -1", "paste MIN", "paste MAX");
        run.refused("giveBack 0", "paste 0", "giveBack 3", "paste 3");
        run.due(2, "owed 1").due(2, "paste 1").due(0, "giveBack 1").refused("paste 1", "giveBack 1");
    }

    private static void mark() {
        Run run = library("11, which first");
        // No copy or bar, ahead of a sign that is wrong and of a copy that is at home.
        run.noSuch("mark 4 0 10", "mark -1 0 1", "mark 1 5 10", "mark 1 -1 -1", "mark 0 5 1", "mark 0 5 10");
        run.noSuch("mark 0 -1 1", "mark MIN 0 1", "mark MAX 0 1", "mark 1 MIN 1", "mark 1 MAX 1");
        // A wrong sign, ahead of a copy that is at home or lacks the bar.
        run.outOfRange("mark 0 0 10", "mark 0 0 -1", "mark 1 4 10", "mark 1 4 -1", "mark 1 0 MIN", "mark 1 0 MAX");
        run.refused("mark 0 0 1", "mark 0 4 0", "mark 3 0 9", "mark 1 4 1", "mark 1 4 0");
        run.due(4, "markOf 2 0 0").due(5, "markOf 2 0 1").due(0, "markOf 2 0 4").due(1, "oldMarks 2");
    }

    private static void bow() {
        Run run = library("12, which first");
        // No copy, bar or note, ahead of a wrong bowing, of a copy at home and of one that owes the bar.
        run.noSuch("bow 4 0 0 3", "bow -1 0 0 1", "bow 1 5 0 3", "bow 1 -1 0 1", "bow 1 0 8 3", "bow 1 0 -1 1");
        run.noSuch("bow 0 5 0 1", "bow 0 0 8 1", "bow 0 0 8 3", "bow 1 0 8 1", "bow 1 4 1 1", "bow 1 2 0 1");
        run.noSuch("bow 2 0 1 1", "bow 2 1 0 1", "bow MIN 0 0 1", "bow MAX 0 0 1", "bow 1 MIN 0 1", "bow 1 1 MAX 1");
        // A wrong bowing, ahead of a copy that is at home or owes the bar.
        run.outOfRange("bow 0 0 0 3", "bow 0 0 0 -1", "bow 1 0 0 3", "bow 1 4 0 3", "bow 1 4 0 -1");
        run.outOfRange("bow 1 1 0 3", "bow 1 1 0 -1", "bow 1 1 0 MIN", "bow 1 1 0 MAX");
        run.refused("bow 0 0 0 1", "bow 0 1 0 0", "bow 3 1 0 1", "bow 1 0 0 1", "bow 1 0 0 0", "bow 1 4 0 2");
        run.due(1, "clashes 0").due(2, "bow 1 1 1 2").due(2, "bow 1 1 0 1").due(2, "clashes 0");
    }

    private static void play() {
        Run run = library("13, refused");
        run.refused("play").due(0, "concerts").told("paste 1").due(2, "play").due(1, "concerts");
        run.told("bar 1").refused("play").due(1, "concerts").told("paste 1").refused("play").told("giveBack 2");
        run.due(1, "play").due(2, "concerts").told("giveBack 1").refused("play").due(2, "concerts");
    }

    private static void asked() {
        Run run = library("what is asked changes nothing");
        run.refused("bow 1 0 0 2");
        for (String call : new String[] {
            "bars", "notes 0 0", "noteAt 0 0 0", "version 0 0", "time 5", "timeByBars 5", "items 0", "itemOf 0 4",
            "cue 2 3", "width 5 0", "lines 0", "lineOf 5 4", "cost 1", "costByAll 5", "turns 0", "place 5 1 7",
            "copies", "deskOf 1", "has 1 0", "has 1 4", "has 0 0", "owed 1", "markOf 2 0 0", "oldMarks 2",
            "clashes 0", "concerts"
        }) {
            run.told(call).unchangedBehind(call);
        }
        run.noSuch("time 6", "timeByBars 6", "time -1", "timeByBars -1", "notes 0 5", "noteAt 0 0 8", "version 5 0");
        run.noSuch("items 6", "itemOf 6 0", "itemOf 0 5", "cue 5 0", "cue 0 5", "width 0 5", "width 6 0");
        run.noSuch("lines 6", "lineOf 6 0", "lineOf 0 5", "cost 6", "costByAll 6", "turns 6");
        run.noSuch("place 6 0 0", "place 0 5 0", "place 0 0 8", "place 0 1 9", "place 5 1 32");
        run.noSuch("deskOf 4", "has 4 0", "has 0 5", "owed 4", "markOf 6 0 0", "markOf 0 5 0", "markOf 0 0 5");
        run.noSuch("oldMarks 6", "clashes 5");
    }

    public static void main(String[] args) {
        bar();
        note();
        mend();
        empty();
        setPaper();
        copy();
        lend();
        giveBackAndPaste();
        mark();
        bow();
        play();
        asked();
        CHECK.end("RefusedTest");
    }
}
