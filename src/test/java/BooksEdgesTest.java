/** The sentences of the document that name an edge: items, cues and springs. Each has a test. */
public final class BooksEdgesTest {
    private static final Check CHECK = new Check();

    private static Run run(String about) {
        return new Run(CHECK, about);
    }

    /** Bars of 8; the instruments that are named sound in each of them, with one note as long. */
    private static Run bars(String about, int count, int... sounding) {
        Run run = run(about);
        for (int bar = 0; bar < count; bar++) {
            run.told("bar 8");
            for (int instrument : sounding) {
                run.told("note " + instrument + " " + bar + " 8 30");
            }
        }
        return run;
    }

    /** "Silent in a bar in which no note of it has a pitch above 0": a rest is 32, a note of 8 is 23. */
    private static void silent() {
        Run none = bars("silent: no notes", 1).due(32, "width 0 0");
        none.told("note 0 0 8 0").due(32, "width 0 0").told("mend 0 0 0 1").due(23, "width 0 0");
        none.told("mend 0 0 0 60").due(23, "width 0 0").told("mend 0 0 0 0").due(32, "width 0 0");
        none.told("mend 0 0 0 2", "empty 0 0").due(32, "width 0 0");
        Run last = bars("silent: only the last note sounds", 1).times(7, "note 0 0 1 0").due(32, "width 0 0");
        last.told("note 0 0 1 1").due(8 * 6 + 8, "width 0 0").told("mend 0 0 7 0").due(32, "width 0 0");
        last.told("mend 0 0 0 1").due(8 * 6 + 8, "width 0 0");
    }

    /** "Bars side by side in which it is silent are one together, as many as can be." */
    private static void rests() {
        Run all = bars("12 bars of rest", 12).due(1, "items 0").each("itemOf 0 #", 0, 0, 0, 0, 0, 0, 0, 0, 0, 0, 0, 0);
        all.due(32, "width 0 0").noSuch("width 0 1").due(12, "items 5");
        all.told("note 0 4 8 0").due(1, "items 0").told("mend 0 4 0 9").due(3, "items 0");
        all.each("itemOf 0 #", 0, 0, 0, 0, 1, 2, 2, 2, 2, 2, 2, 2);
        all.told("note 0 5 8 9").due(4, "items 0").told("note 0 11 1 1").due(5, "items 0").due(4, "itemOf 0 11");
        all.told("note 0 0 1 1").due(6, "items 0").each("itemOf 0 #", 0, 1, 1, 1, 2, 3, 4, 4, 4, 4, 4, 5);
        Run one = run("a bar of rest").told("bar 1").due(1, "items 3").due(32, "width 3 0").due(4, "place 3 0 0");
        one.noSuch("place 3 0 1", "width 3 1", "itemOf 3 1");
        Run turns = bars("rests of one bar", 12);
        for (int bar = 0; bar < 12; bar += 2) {
            turns.told("note 1 " + bar + " 8 1");
        }
        turns.due(12, "items 1").each("itemOf 1 #", 0, 1, 2, 3, 4, 5, 6, 7, 8, 9, 10, 11).due(1, "items 0");
        bars("no bar of rest", 12, 2).due(12, "items 2").due(1, "items 1").due(11, "itemOf 2 11");
    }

    /** "Of three bars or more, with a bar behind it": rests of 1 to 11 bars at the beginning. */
    private static void lengthsOfRests() {
        for (int rest = 1; rest <= 11; rest++) {
            Run run = bars("a rest of " + rest + " bars and one behind", rest + 1, 1).told("note 0 " + rest + " 8 1");
            for (int bar = 0; bar <= rest; bar++) {
                run.due(rest >= 3 && bar == rest - 1 ? 1 : -1, "cue 0 " + bar);
            }
            run.due(rest >= 3 ? 3 : 2, "items 0").due(rest >= 3 ? 2 : 1, "itemOf 0 " + rest);
            run.due(rest == 2 ? 0 : rest >= 3 ? 1 : 0, "itemOf 0 " + (rest - 1)).due(0, "itemOf 0 0").due(32, "width 0 0");
        }
    }

    /** "A rest of two bars and one of three", between bars in which it sounds. */
    private static void restsBetween() {
        Run two = bars("a rest of two bars between", 4, 1, 2).told("note 0 0 8 1", "note 0 3 8 1");
        two.each("cue 0 #", -1, -1, -1, -1).due(3, "items 0").each("itemOf 0 #", 0, 1, 1, 2);
        Run three = bars("a rest of three bars between", 5, 1, 2).told("note 0 0 8 1", "note 0 4 8 1");
        three.each("cue 0 #", -1, -1, -1, 1, -1).due(4, "items 0").each("itemOf 0 #", 0, 1, 1, 2, 3);
        three.told("note 0 1 8 0").due(1, "cue 0 3").told("mend 0 1 0 5").due(-1, "cue 0 3").due(4, "items 0");
        three.told("empty 0 1", "note 0 2 8 5").each("cue 0 #", -1, -1, -1, -1, -1).due(5, "items 0");
        three.told("empty 0 2").due(1, "cue 0 3").told("note 0 3 8 5").each("cue 0 #", -1, -1, -1, -1, -1).due(4, "items 0");
    }

    /** "A rest with no bar behind it": of any length, with all others in each of its bars. */
    private static void noBarBehind() {
        for (int rest = 1; rest <= 12; rest++) {
            Run run = bars("a rest of " + rest + " bars with none behind", rest, 0, 1, 3, 4);
            run.due(-1, "cue 2 " + (rest - 1)).due(1, "items 2").due(0, "itemOf 2 " + (rest - 1));
        }
        Run run = bars("a rest at the end", 4, 3).told("note 0 0 8 1").due(2, "items 0").due(-1, "cue 0 3");
        run.told("bar 8").due(-1, "cue 0 3").due(-1, "cue 0 4").due(2, "items 0");
        run.told("note 0 4 8 0").due(-1, "cue 0 3").told("mend 0 4 0 1").due(3, "cue 0 3").due(4, "items 0");
        run.told("mend 0 4 0 0").due(-1, "cue 0 3").due(2, "items 0");
    }

    /** "Bars in which nobody else sounds": the last bar of the rest counts, and no other one. */
    private static void nobodyElse() {
        Run run = bars("nobody else sounds", 5).told("note 2 4 8 1").due(-1, "cue 2 3").due(2, "items 2");
        run.told("note 0 0 8 1", "note 1 1 8 1", "note 3 2 8 1", "note 4 4 8 1").due(-1, "cue 2 3").due(2, "items 2");
        run.times(8, "note 4 3 1 0").times(2, "note 0 3 1 0").due(-1, "cue 2 3").told("note 2 3 8 0").due(-1, "cue 2 3");
        run.each("itemOf 2 #", 0, 0, 0, 0, 1).told("mend 4 3 7 1").due(4, "cue 2 3").each("itemOf 2 #", 0, 0, 0, 1, 2);
        run.told("mend 4 3 7 0").due(-1, "cue 2 3").due(2, "items 2");
    }

    /** "Of those that are not silent in it the one with the most notes there, of several the lowest." */
    private static void whoPlays() {
        Run run = bars("who plays the cue", 4).told("note 2 3 8 1");
        run.told("note 4 2 1 1").due(4, "cue 2 2").told("note 3 2 1 1").due(3, "cue 2 2");
        run.told("note 1 2 1 1").due(1, "cue 2 2").told("note 0 2 1 1").due(0, "cue 2 2");
        run.told("note 4 2 1 0").due(4, "cue 2 2").told("note 3 2 1 9").due(3, "cue 2 2");
        run.told("note 4 2 1 0").due(4, "cue 2 2").times(8, "note 2 2 1 0").due(4, "cue 2 2");
        run.told("mend 4 2 0 0").due(3, "cue 2 2").told("mend 4 2 2 1").due(4, "cue 2 2");
        run.told("empty 4 2").due(3, "cue 2 2").told("empty 3 2").due(0, "cue 2 2").told("empty 0 2").due(1, "cue 2 2");
        run.told("empty 1 2").due(-1, "cue 2 2");
        Run where = bars("notes of other bars play no cue", 4).told("note 2 3 8 1").times(8, "note 4 1 1 1");
        where.times(8, "note 4 3 1 1").told("note 4 2 1 1", "note 3 2 1 1").due(3, "cue 2 2");
    }

    /** "Several instruments with as many notes": all but its own, for each part. */
    private static void severalWithAsMany() {
        int[] lowest = {1, 0, 0, 0, 0};
        for (int part = 0; part < 5; part++) {
            Run run = bars("as many notes, part " + part, 4).told("note " + part + " 3 1 1");
            for (int other = 4; other >= 0; other--) {
                if (other != part) {
                    run.times(8, "note " + other + " 2 1 5");
                }
            }
            run.due(lowest[part], "cue " + part + " 2").due(3, "items " + part);
            run.told("mend " + lowest[part] + " 2 0 0").due(lowest[part], "cue " + part + " 2");
        }
    }

    /** "This bar is an item by itself, a cue: it is drawn by the notes of another instrument." */
    private static void cueDrawn() {
        Run run = bars("a cue is drawn", 4).told("note 0 3 8 1", "note 1 2 2 0", "note 1 2 1 9");
        run.told("note 0 2 4 0", "note 0 2 1 0", "note 2 2 1 0", "note 3 2 1 7").due(1, "cue 0 2").due(3, "items 0");
        // A rest of 2, a note of 1 and what lacks, 5.
        run.due(9 + 6 + 12 + 8, "width 0 1").due(32, "width 0 0").due(23, "width 0 2");
        run.due(36, "place 0 2 0").due(45, "place 0 2 2").due(51, "place 0 2 3").due(71, "place 0 3 0");
        run.noSuch("place 0 2 1", "place 0 2 4", "place 0 2 5", "place 0 2 8", "place 0 1 0").due(4, "place 0 0 0");
        // The first line is 67, and stretched by 13 of 51.
        run.told("setPaper 80 1").due(36 + 6, "place 0 2 0").due(45 + 8, "place 0 2 2").due(51 + 9, "place 0 2 3");
        run.told("note 3 2 7 0").due(1, "cue 0 2").told("note 1 2 5 0", "empty 1 2").due(3, "cue 0 2");
        run.due(6 + 12 + 8, "width 0 1").noSuch("place 0 2 2", "place 0 2 8").told("place 0 2 1");
        Run most = bars("a cue with the most notes", 4).told("note 4 3 8 1").times(8, "note 2 2 1 3");
        most.due(2, "cue 4 2").due(8 * 6 + 8, "width 4 1").due(32 + 4 + 42, "place 4 2 7");
    }

    /** Three rests with a cue each, by three instruments. */
    private static void threeCues() {
        Run run = bars("three cues", 12).told("note 0 3 8 1", "note 0 7 8 1", "note 0 11 8 1");
        run.told("note 4 2 8 1", "note 1 6 8 1", "note 3 10 8 1");
        run.each("cue 0 #", -1, -1, 4, -1, -1, -1, 1, -1, -1, -1, 3, -1).due(9, "items 0");
        run.each("itemOf 0 #", 0, 0, 1, 2, 3, 3, 4, 5, 6, 6, 7, 8);
        run.each("width 0 #", 32, 23, 23, 32, 23, 23, 32, 23, 23).noSuch("width 0 9");
        run.each("cue 4 #", -1, -1, -1, -1, -1, -1, -1, -1, -1, -1, -1, -1);
        run.each("cue 1 #", -1, -1, -1, -1, -1, -1, -1, -1, -1, -1, -1, -1);
    }

    /** "6, and 3 for each time that its length can be halved, rounded down, until it is 1." */
    private static int spring(int length) {
        int[] from = {1, 2, 4, 8, 16, 32};
        int width = 3;
        for (int least : from) {
            width += length >= least ? 3 : 0;
        }
        return width;
    }

    /** A spring of each length, 1 to 32: as a note, as a rest that the notes lack, and in the score. */
    private static void lengthsOfSprings() {
        int[] known = {6, 9, 9, 12, 12, 12, 12, 15, 15, 15, 15, 15, 15, 15, 15, 18};
        for (int length = 1; length <= 32; length++) {
            int width = length <= 16 ? known[length - 1] : length < 32 ? 18 : 21;
            CHECK.due("the spring of " + length, spring(length), width);
            Run run = run("a spring of " + length).told("bar " + length, "note 1 0 " + length + " 1");
            run.due(width + 8, "width 1 0").due(width + 8, "width 5 0").due(32, "width 0 0").due(4, "place 1 0 0");
            run.noSuch("place 1 0 " + length, "place 5 0 " + length);
            if (length < 32) {
                run.told("bar 32", "note 1 1 " + (32 - length) + " 1").due(spring(32 - length) + width + 8, "width 1 1");
                run.told("place 1 1 " + (32 - length)).noSuch("place 1 1 32", "place 1 1 " + (33 - length));
            }
            run.told("bar " + length).due(width + 8, "width 5 " + (length < 32 ? 2 : 1));
        }
    }

    /** "A spring of the length 1, a least width that is more than the width": 4, and 1 for each. */
    private static void leastIsMore() {
        int[] springs = {6, 6, 6, 7, 8, 9};
        Run run = run("the width is the least width").told("bar 1", "bar 2", "bar 1");
        for (int count = 0; count <= 5; count++) {
            run.due(springs[count] + 8, "width 5 0").due(9 + 8, "width 5 1").due(6 + 8, "width 5 2");
            if (count < 5) {
                run.told("note " + count + " 0 1 " + (count + 1), "note " + count + " 1 2 60", "note " + count + " 2 1 0");
                run.due(6 + 8, "width " + count + " 0").due(9 + 8, "width " + count + " 1");
            }
        }
        run.told("mend 0 0 0 0").due(8 + 8, "width 5 0").told("mend 4 0 0 0").due(7 + 8, "width 5 0");
        run.told("mend 2 0 0 0").due(6 + 8, "width 5 0").told("mend 1 2 0 5", "mend 2 2 0 5").due(6 + 8, "width 5 2");
        run.told("mend 3 2 0 5").due(7 + 8, "width 5 2");
    }

    /** "Of which a note with a pitch above 0 begins at its place": one that sounds on does not. */
    private static void soundsOn() {
        Run run = run("notes that sound on").told("bar 2");
        for (int instrument = 0; instrument < 4; instrument++) {
            run.told("note " + instrument + " 0 2 1");
        }
        run.told("note 4 0 1 1", "note 4 0 1 1").due(9 + 6 + 8, "width 5 0").due(4 + 9, "place 5 0 1");
        run.told("empty 3 0", "note 3 0 1 1", "note 3 0 1 1").due(9 + 6 + 8, "width 5 0");
        run.told("empty 2 0", "note 2 0 1 1", "note 2 0 1 1").due(9 + 7 + 8, "width 5 0");
        run.told("mend 0 0 0 0").due(8 + 7 + 8, "width 5 0").due(4 + 8, "place 5 0 1");
        run.told("mend 2 0 1 0").due(8 + 6 + 8, "width 5 0").told("empty 4 0", "empty 3 0").due(6 + 6 + 8, "width 5 0");
    }

    /** "Notes that fill a bar or leave a rest in it": wherever one begins is a place. */
    private static void places() {
        Run full = run("notes fill the bar").told("bar 8", "note 0 0 4 1", "note 0 0 4 1").due(12 + 12 + 8, "width 0 0");
        full.due(4, "place 0 0 0").due(16, "place 0 0 4").noSuch("place 0 0 8", "place 0 0 7", "place 0 0 1", "place 0 0 3");
        Run lack = run("notes leave a rest").told("bar 8", "note 0 0 4 1", "note 0 0 3 1").due(12 + 9 + 6 + 8, "width 0 0");
        lack.due(4, "place 0 0 0").due(16, "place 0 0 4").due(25, "place 0 0 7").noSuch("place 0 0 8", "place 0 0 6");
        lack.told("note 0 0 1 0").due(12 + 9 + 6 + 8, "width 0 0").due(25, "place 0 0 7").noSuch("place 0 0 8");
        Run rests = run("rests are not joined").told("bar 8", "note 0 0 2 0", "note 0 0 2 0", "note 0 0 2 1", "note 0 0 1 0");
        rests.due(9 + 9 + 9 + 6 + 6 + 8, "width 0 0").due(4, "place 0 0 0").due(13, "place 0 0 2").due(22, "place 0 0 4");
        rests.due(31, "place 0 0 6").due(37, "place 0 0 7").noSuch("place 0 0 8", "place 0 0 5", "place 0 0 MAX");
        rests.due(9 + 9 + 9 + 6 + 6 + 8, "width 5 0").noSuch("place 0 0 -1", "place 0 0 MIN", "place 5 0 1");
    }

    /** In the score all five begin places together: one where several begin, one where notes lack. */
    private static void placesOfTheScore() {
        Run run = run("places of the score").told("bar 32").due(21 + 8, "width 5 0").due(4, "place 5 0 0").noSuch("place 5 0 1");
        run.told("note 0 0 8 1").due(15 + 18 + 8, "width 5 0").told("note 1 0 8 0").due(15 + 18 + 8, "width 5 0");
        run.told("note 1 0 1 1").due(15 + 6 + 18 + 8, "width 5 0").told("note 2 0 9 1").due(15 + 6 + 18 + 8, "width 5 0");
        run.told("note 3 0 31 1").due(15 + 6 + 18 + 6 + 8, "width 5 0").due(4 + 39, "place 5 0 31").noSuch("place 5 0 30");
        run.told("note 4 0 32 1").due(15 + 6 + 18 + 6 + 8, "width 5 0").noSuch("place 5 0 32", "place 4 0 31");
        run.told("empty 3 0").due(15 + 6 + 18 + 8, "width 5 0").noSuch("place 5 0 31");
        Run silent = run("a silent bar in the score").told("bar 8", "note 3 0 3 0").due(9 + 12 + 8, "width 5 0");
        silent.due(13, "place 5 0 3").due(32, "width 3 0").noSuch("place 3 0 3", "place 5 0 8").due(4, "place 3 0 0");
    }

    /** "At the beginning of its first bar": nowhere else, whatever notes without a pitch there are. */
    private static void placeOfARest() {
        Run run = run("the place of a rest").told("bar 8", "bar 8", "bar 8", "bar 8", "note 0 0 4 7", "note 0 1 2 0");
        run.told("note 0 2 8 0", "note 0 3 2 7").each("itemOf 0 #", 0, 1, 1, 2).due(12 + 12 + 8, "width 0 0");
        run.due(32 + 4, "place 0 1 0").noSuch("place 0 1 2", "place 0 2 0", "place 0 1 1", "place 0 1 8", "place 0 1 24");
        run.due(64 + 4, "place 0 3 0").due(64 + 4 + 9, "place 0 3 2").noSuch("place 0 3 1", "place 0 3 8");
        run.due(4, "place 1 0 0").noSuch("place 1 1 0", "place 1 3 0", "place 1 0 1");
    }

    /** 32 places: the most that a bar has. "Besides its springs an item takes 8, 4 ahead of them." */
    private static void mostPlaces() {
        int[] silence = {0, 8, 15, 22, 29, 32};
        Run run = run("32 places").told("bar 32");
        for (int instrument = 0; instrument < 5; instrument++) {
            if (instrument > 0) {
                run.told("note " + instrument + " 0 " + silence[instrument] + " 0");
            }
            run.times(silence[instrument + 1] - silence[instrument], "note " + instrument + " 0 1 60");
        }
        run.due(32 * 6 + 8, "width 5 0").noSuch("place 5 0 32", "place 5 0 -1");
        for (int at = 0; at < 32; at++) {
            run.due(4 + 6 * at, "place 5 0 " + at);
        }
        // Each can be shrunk to 5, as one note begins there; but to 4 where only rests begin.
        run.told("setPaper 80 1", "mend 0 0 0 0", "mend 1 0 1 0", "mend 4 0 3 0");
        for (int at = 0; at < 32; at++) {
            run.due(4 + 5 * at - (at > 0 ? 1 : 0) - (at > 8 ? 1 : 0), "place 5 0 " + at);
        }
        run.due(4 * 120 * 120, "cost 5").due(4 * 120 * 120, "costByAll 5").due(1, "lines 5").due(0, "turns 5");
    }

    public static void main(String[] args) {
        silent();
        rests();
        lengthsOfRests();
        restsBetween();
        noBarBehind();
        nobodyElse();
        whoPlays();
        severalWithAsMany();
        cueDrawn();
        threeCues();
        lengthsOfSprings();
        leastIsMore();
        soundsOn();
        places();
        placesOfTheScore();
        placeOfARest();
        mostPlaces();
        CHECK.end("BooksEdgesTest");
    }
}
