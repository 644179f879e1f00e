/**
 * Each argument of each call: the least value and the greatest, the ones just outside, the least
 * int and the greatest; with nothing there yet, and with all there.
 */
public final class RangesTest {
    private static final Check CHECK = new Check();

    /** 12 bars of 32, of which each instrument has 8 notes in the first one and the last. */
    private static Run allBars(String about) {
        Run run = new Run(CHECK, about);
        for (int bar = 0; bar < 12; bar++) {
            run.due(bar, "bar 32");
        }
        return run;
    }

    private static Run allNotes(String about) {
        Run run = allBars(about);
        for (int instrument = 0; instrument < 5; instrument++) {
            for (int bar = 0; bar < 12; bar += 11) {
                eightNotes(run, instrument + " " + bar);
            }
        }
        return run;
    }

    /** They fill a bar of 32, and begin at 0, 4, 8, 12, 16, 20, 24 and 31. */
    private static void eightNotes(Run run, String there) {
        run.times(6, "note " + there + " 4 1").told("note " + there + " 7 2", "note " + there + " 1 60");
    }

    private static Run allCopies(String about) {
        Run run = allNotes(about);
        for (int copy = 0; copy < 16; copy++) {
            run.due(copy, "copy " + copy % 5);
        }
        return run;
    }

    /** Copies 0 and 15 are of part 0, with the desks 0 and 5. */
    private static Run lent(String about) {
        return allCopies(about).due(1, "lend 0 0").due(2, "lend 15 5");
    }

    /** What is outside of an argument's range throws by its kind: i no such index, v no such value. */
    private static void outside(Run run, String kinds, String least, String greatest) {
        String[] from = least.split(" ");
        String[] to = greatest.split(" ");
        for (int i = 1; i < from.length; i++) {
            String below = Integer.toString(Integer.parseInt(from[i]) - 1);
            String above = Integer.toString(Integer.parseInt(to[i]) + 1);
            for (String value : new String[] {below, above, "MIN", "MAX"}) {
                throwing(run, kinds.charAt(i - 1), with(from, i, value));
                throwing(run, kinds.charAt(i - 1), with(to, i, value));
            }
        }
    }

    private static String with(String[] words, int place, String value) {
        String[] changed = words.clone();
        changed[place] = value;
        return String.join(" ", changed);
    }

    private static void throwing(Run run, char kind, String call) {
        if (kind == 'i') {
            run.noSuch(call);
        } else {
            run.outOfRange(call);
        }
    }

    private static void ranges(Run run, String kinds, int atLeast, String least, int atMost, String greatest) {
        outside(run, kinds, least, greatest);
        run.due(atLeast, least).due(atMost, greatest);
    }

    private static void told() {
        ranges(new Run(CHECK, "2"), "v", 0, "bar 1", 1, "bar 32");
        ranges(allBars("3"), "iivv", 1, "note 0 0 1 0", 1, "note 4 11 32 60");
        ranges(allNotes("4"), "iiiv", 1, "mend 0 0 0 0", 60, "mend 4 11 7 60");
        ranges(allNotes("5"), "ii", 8, "empty 0 0", 8, "empty 4 11");
        ranges(allNotes("6"), "vv", 200, "setPaper 80 1", 80, "setPaper 500 6");
        ranges(allNotes("7"), "i", 0, "copy 0", 1, "copy 4");
        ranges(allCopies("8"), "ii", 1, "lend 0 0", 2, "lend 15 5");
        ranges(lent("9"), "i", 0, "giveBack 0", 0, "giveBack 15");
        ranges(lent("10"), "i", 0, "paste 0", 0, "paste 15");
        ranges(lent("11"), "iiv", 0, "mark 0 0 0", 0, "mark 15 11 9");
        ranges(lent("12"), "iiiv", 0, "bow 0 0 0 0", 0, "bow 15 11 7 2");
    }

    private static void askedOfTheScore() {
        ranges(allNotes("15"), "ii", 8, "notes 0 0", 8, "notes 4 11");
        ranges(allNotes("16"), "iii", 401, "noteAt 0 0 0", 160, "noteAt 4 11 7");
        ranges(allNotes("17"), "ii", 8, "version 0 0", 8, "version 4 11");
        ranges(allNotes("18"), "i", 0, "time 0", 384, "time 12");
        ranges(allNotes("19"), "i", 0, "timeByBars 0", 384, "timeByBars 12");
    }

    /**
     * A part is a bar of 98, a rest of 32 without a cue, for all are silent, and a bar of 98: one
     * line that is 28 more. The score has 101, for five begin at the last sixteenth, ten times 29,
     * and 101: the first four lack 12, the next seven are 3 more, and the last one is free.
     */
    private static void askedOfBooks() {
        ranges(allNotes("20"), "i", 3, "items 0", 12, "items 5");
        ranges(allNotes("21"), "ii", 0, "itemOf 0 0", 11, "itemOf 5 11");
        ranges(allNotes("22"), "ii", -1, "cue 0 0", -1, "cue 4 11");
        ranges(allNotes("23"), "ii", 98, "width 0 0", 101, "width 5 11");
        ranges(allNotes("24"), "i", 1, "lines 0", 3, "lines 5");
        ranges(allNotes("25"), "ii", 0, "lineOf 0 0", 2, "lineOf 5 11");
        ranges(allNotes("26"), "i", 56 * 56, "cost 0", 12 * 12 + 6 * 6, "cost 5");
        ranges(allNotes("27"), "i", 56 * 56, "costByAll 0", 12 * 12 + 6 * 6, "costByAll 5");
        ranges(allNotes("28"), "i", 0, "turns 0", 0, "turns 5");
        ranges(allNotes("29"), "iii", 4, "place 0 0 0", 88, "place 5 11 31");
    }

    private static void askedOfCopies() {
        ranges(lent("31"), "i", 0, "deskOf 0", 5, "deskOf 15");
        ranges(lent("32"), "ii", 8, "has 0 0", 8, "has 15 11");
        ranges(lent("33"), "i", 0, "owed 0", 0, "owed 15");
        ranges(lent("34"), "iii", 0, "markOf 0 0 0", 0, "markOf 5 4 11");
        ranges(lent("35"), "i", 0, "oldMarks 0", 0, "oldMarks 5");
        ranges(lent("36"), "i", 0, "clashes 0", 0, "clashes 4");
    }

    /** No bars and no copies: nothing has a number, and sums are 0. */
    private static void nothingThere() {
        Run run = new Run(CHECK, "1, nothing there");
        run.due(0, "bars").due(0, "copies").due(0, "concerts");
        run.due(0, "time 0").due(0, "timeByBars 0");
        run.noSuch("time 1", "timeByBars 1", "time 12", "timeByBars 12");
        for (String of : new String[] {"items", "lines", "cost", "costByAll", "turns"}) {
            run.each(of + " #", 0, 0, 0, 0, 0, 0);
        }
        run.each("oldMarks #", 0, 0, 0, 0, 0, 0).each("clashes #", 0, 0, 0, 0, 0);
        run.noSuch("note 0 0 1 1", "mend 0 0 0 1", "empty 0 0");
        run.noSuch("notes 0 0", "noteAt 0 0 0", "version 0 0");
        run.noSuch("itemOf 0 0", "itemOf 5 0", "cue 0 0", "width 0 0", "width 5 0");
        run.noSuch("lineOf 0 0", "lineOf 5 0", "place 0 0 0", "place 5 0 0");
        run.noSuch("lend 0 0", "giveBack 0", "paste 0", "mark 0 0 1", "bow 0 0 0 1");
        run.noSuch("deskOf 0", "has 0 0", "owed 0", "markOf 0 0 0");
        run.refused("play");
    }

    /** Copies of parts without a bar can be lent, and played from. */
    private static void copiesAlone() {
        Run run = new Run(CHECK, "7 to 13, no bars");
        run.due(0, "copy 2").due(1, "lend 0 3").due(3, "deskOf 0");
        run.noSuch("has 0 0", "mark 0 0 1", "bow 0 0 0 1", "markOf 3 2 0");
        run.due(0, "owed 0").due(0, "paste 0").due(1, "play").due(1, "concerts").due(0, "giveBack 0");
        run.refused("play", "paste 0", "giveBack 0");
    }

    /** Bars without notes have no note of the number 0. */
    private static void barsAlone() {
        Run run = new Run(CHECK, "3 to 5, no notes");
        run.due(0, "bar 1").due(0, "copy 0").due(1, "lend 0 0");
        run.due(0, "notes 0 0").due(0, "version 0 0").due(0, "empty 0 0");
        run.noSuch("mend 0 0 0 1", "noteAt 0 0 0", "bow 0 0 0 1", "mend 0 1 0 1", "noteAt 0 1 0");
        run.due(0, "mark 0 0 1");
    }

    /** The last number of each kind is there, the next one is not, and no more can be made. */
    private static void allThere() {
        Run bars = allBars("2, 12 bars");
        bars.refused("bar 1", "bar 32").due(12, "bars").due(0, "notes 4 11");
        bars.noSuch("notes 4 12", "note 4 12 1 1", "empty 4 12", "cue 4 12", "itemOf 5 12", "time 13");
        Run notes = new Run(CHECK, "3, 8 notes").told("bar 32", "bar 8");
        for (int count = 1; count <= 8; count++) {
            notes.due(count, "note 0 0 1 " + count).due(count, "note 1 1 1 " + count);
        }
        notes.refused("note 0 0 1 1", "note 0 0 24 0", "note 1 1 1 0").due(8, "notes 0 0").due(108, "noteAt 0 0 7");
        notes.noSuch("noteAt 0 0 8", "mend 0 0 8 1").due(1, "note 0 1 8 1").due(1, "note 1 0 32 1");
        notes.due(8, "empty 0 0").due(1, "note 0 0 32 5").refused("note 0 0 1 1");
        Run copies = new Run(CHECK, "7, 16 copies");
        for (int copy = 0; copy < 16; copy++) {
            copies.due(copy, "copies").due(copy, "copy " + copy % 5);
        }
        copies.refused("copy 0", "copy 4").due(16, "copies").due(-1, "deskOf 15").noSuch("deskOf 16", "lend 16 0");
        copies.due(1, "lend 15 0").refused("copy 0").due(0, "giveBack 15").refused("copy 0");
    }

    public static void main(String[] args) {
        told();
        askedOfTheScore();
        askedOfBooks();
        askedOfCopies();
        nothingThere();
        copiesAlone();
        barsAlone();
        allThere();
        CHECK.end("RangesTest");
    }
}
