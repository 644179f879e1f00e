/** The sentences of the document that name an edge: the score. Each has a test of its own. */
public final class ScoreEdgesTest {
    private static final Check CHECK = new Check();

    private static Run run(String about) {
        return new Run(CHECK, about);
    }

    /** "Bars are numbered from 0 on, at most 12; a bar has a length, 1 to 32." */
    private static void bars() {
        Run run = run("bars");
        for (int bar = 0; bar < 12; bar++) {
            run.due(bar, "bars").due(bar, bar % 2 == 0 ? "bar 1" : "bar 32");
        }
        run.refused("bar 1").due(12, "bars").due(6 * 33, "time 12");
        run("the longest bars").times(12, "bar 32").due(384, "time 12").due(384, "timeByBars 12").due(352, "time 11");
        run("the shortest bars").times(12, "bar 1").due(12, "time 12").due(12, "timeByBars 12").due(11, "time 11");
    }

    /** "Adds a bar without notes": there and for each instrument, whatever the others have. */
    private static void barWithoutNotes() {
        Run run = run("a bar without notes").told("bar 4").times(4, "note 0 0 1 1").times(4, "note 4 0 1 1");
        run.told("bar 4").each("notes # 1", 0, 0, 0, 0, 0).each("version # 1", 0, 0, 0, 0, 0);
        run.each("notes # 0", 4, 0, 0, 0, 4).each("version # 0", 4, 0, 0, 0, 4);
    }

    /** "At most 8, numbered from 0, one behind the other from the beginning of the bar on." */
    private static void notes() {
        Run run = run("notes").told("bar 32");
        for (int note = 0; note < 8; note++) {
            run.noSuch("noteAt 2 0 " + note).due(note + 1, "note 2 0 " + (note % 4 + 1) + " " + note);
        }
        run.each("noteAt 2 0 #", 100, 201, 302, 403, 104, 205, 306, 407).refused("note 2 0 1 1").due(8, "notes 2 0");
        run.each("notes # 0", 0, 0, 8, 0, 0);
    }

    /** "Or they would be longer than the bar": as long as the bar they may be, or less. */
    private static void room() {
        Run one = run("a bar of 1").told("bar 1").refused("note 0 0 2 1", "note 0 0 32 0").due(1, "note 0 0 1 60");
        one.refused("note 0 0 1 0").due(160, "noteAt 0 0 0").due(1, "note 4 0 1 0").due(100, "noteAt 4 0 0");
        Run most = run("a bar of 32").told("bar 32").due(1, "note 0 0 32 1").refused("note 0 0 1 1");
        most.due(1, "note 1 0 31 1").refused("note 1 0 2 1").due(2, "note 1 0 1 1").refused("note 1 0 1 1");
        Run middle = run("a bar of 31").told("bar 31").refused("note 0 0 32 1").due(1, "note 0 0 31 1");
        middle.due(1, "note 1 0 16 1").refused("note 1 0 16 1").due(2, "note 1 0 15 0").due(1500, "noteAt 1 0 1");
        Run eighth = run("the eighth note").told("bar 32").times(7, "note 0 0 4 1").refused("note 0 0 5 1");
        eighth.due(8, "note 0 0 4 1").refused("note 0 0 1 1").due(8, "notes 0 0");
        Run left = run("room behind the eighth note").told("bar 9").times(8, "note 0 0 1 1").refused("note 0 0 1 1");
        left.due(8, "notes 0 0").due(8, "version 0 0");
        Run bars = run("each bar has its own room").told("bar 3", "bar 5").told("note 0 0 3 1").due(1, "note 0 1 5 1");
        bars.refused("note 0 0 1 1", "note 0 1 1 1");
    }

    /** "A pitch, 1 to 60, or 0 for a rest": 100 times the length, and the pitch. */
    private static void pitches() {
        Run run = run("pitches").told("bar 32", "bar 32").told("note 0 0 1 0", "note 0 0 1 1", "note 0 0 1 60");
        run.told("note 0 0 29 59").each("noteAt 0 0 #", 100, 101, 160, 2959).told("note 0 1 32 60").due(3260, "noteAt 0 1 0");
    }

    /** "0 at first, which is 1 more with each change of its notes in this bar." */
    private static void versions() {
        Run run = run("versions").told("bar 8", "bar 8").due(0, "version 3 1");
        run.told("note 3 1 2 5").due(1, "version 3 1").told("note 3 1 1 0").due(2, "version 3 1");
        run.told("mend 3 1 0 6").due(3, "version 3 1").told("mend 3 1 1 1").due(4, "version 3 1");
        run.told("mend 3 1 1 0").due(5, "version 3 1").told("empty 3 1").due(6, "version 3 1");
        run.told("note 3 1 2 5").due(7, "version 3 1");
        run.told("bar 3", "setPaper 80 1", "copy 3", "lend 0 0", "mark 0 1 1", "bow 0 1 0 1", "paste 0", "play", "giveBack 0");
        run.due(7, "version 3 1").due(0, "version 3 0").due(0, "version 2 1").due(0, "version 4 1").due(0, "version 3 2");
    }

    /** "The same one is no change", be it the least pitch or the greatest. */
    private static void mendToTheSame() {
        Run run = run("mend to the same").told("bar 8", "note 1 0 1 0", "note 1 0 1 60", "note 1 0 1 30");
        run.due(0, "mend 1 0 0 0").due(60, "mend 1 0 1 60").due(30, "mend 1 0 2 30").due(3, "version 1 0");
        run.unchangedBehind("mend 1 0 0 0").unchangedBehind("mend 1 0 1 60");
        run.due(30, "mend 1 0 2 31").due(31, "mend 1 0 2 30").due(5, "version 1 0").due(130, "noteAt 1 0 2");
    }

    /** "It gets another pitch": no other length, and no other note. The first one and the last. */
    private static void mendEnds() {
        Run run = run("mend the first note and the last").told("bar 32").times(8, "note 0 0 3 7").told("note 1 0 3 7");
        run.due(7, "mend 0 0 0 60").due(7, "mend 0 0 7 0").noSuch("mend 0 0 8 1", "mend 1 0 1 1");
        run.each("noteAt 0 0 #", 360, 307, 307, 307, 307, 307, 307, 300).due(307, "noteAt 1 0 0").due(10, "version 0 0");
        run("mend in a full bar").told("bar 1", "note 0 0 1 1").due(1, "mend 0 0 0 2").due(102, "noteAt 0 0 0");
    }

    /** "Takes all notes out; without any that is no change." Rests are notes, and one change takes all. */
    private static void emptyBars() {
        Run run = run("empty").told("bar 8", "bar 8").unchangedBehind("empty 0 0").due(0, "empty 0 0").due(0, "version 0 0");
        run.told("note 0 0 1 0").due(1, "empty 0 0").due(2, "version 0 0").due(0, "empty 0 0").due(2, "version 0 0");
        run.times(8, "note 0 0 1 5").told("note 0 1 1 1", "note 1 0 1 1").due(8, "empty 0 0").due(11, "version 0 0");
        run.due(0, "notes 0 0").due(1, "notes 0 1").due(1, "notes 1 0").noSuch("noteAt 0 0 0", "mend 0 0 0 1");
        run.due(1, "note 0 0 8 9").due(809, "noteAt 0 0 0").noSuch("noteAt 0 0 1").due(12, "version 0 0");
    }

    /** "Its number, or how many there are, for the end of the last one." */
    private static void times() {
        Run run = run("times").due(0, "time 0").due(0, "timeByBars 0").noSuch("time 1", "timeByBars 1");
        run.told("bar 32").due(0, "time 0").due(32, "time 1").due(32, "timeByBars 1").noSuch("time 2", "timeByBars 2");
        run.told("bar 1").due(33, "time 2").due(33, "timeByBars 2").told("note 0 0 5 1", "note 0 1 1 1");
        run.each("time #", 0, 32, 33).each("timeByBars #", 0, 32, 33).noSuch("time 3", "time -1", "time MAX", "time MIN");
        run.noSuch("timeByBars 3", "timeByBars -1", "timeByBars MAX", "timeByBars MIN");
    }

    /** "200 at first", "3 at first": the paper; it returns the width that it had, not what it gets. */
    private static void paper() {
        Run run = run("paper").due(200, "setPaper 500 1").due(500, "setPaper 500 1").due(500, "setPaper 80 6");
        run.outOfRange("setPaper 79 6", "setPaper 501 1").due(80, "setPaper 200 3");
    }

    public static void main(String[] args) {
        bars();
        barWithoutNotes();
        notes();
        room();
        pitches();
        versions();
        mendToTheSame();
        mendEnds();
        emptyBars();
        times();
        paper();
        CHECK.end("ScoreEdgesTest");
    }
}
