/** The sentences of the document that name an edge: copies, debts, marks, bowings and concerts. */
public final class CopiesEdgesTest {
    private static final Check CHECK = new Check();

    private static Run run(String about) {
        return new Run(CHECK, about);
    }

    /** Two bars of 8, with two notes of instrument 1 in each. */
    private static Run music(String about) {
        return run(about).told("bar 8", "bar 8").times(2, "note 1 0 2 5").times(2, "note 1 1 2 5");
    }

    /** Besides, copies 0 to 5 of the part 1, with the desks 0 to 5. */
    private static Run desks(String about) {
        Run run = music(about);
        for (int desk = 0; desk < 6; desk++) {
            run.told("copy 1").due(desk + 1, "lend " + desk + " " + desk);
        }
        return run;
    }

    /** "Copies are numbered from 0 on, at most 16": those that are lent count like those at home. */
    private static void numbers() {
        Run run = run("numbers of copies").due(0, "copies").noSuch("deskOf 0");
        for (int copy = 0; copy < 16; copy++) {
            run.due(copy, "copy " + copy % 5).due(copy + 1, "copies").due(-1, "deskOf " + copy);
            run.noSuch("deskOf " + (copy + 1)).due(copy + 1, "lend " + copy + " " + copy / 5);
        }
        run.refused("copy 0").due(16, "play").due(3, "deskOf 15").due(0, "giveBack 15").refused("copy 0").due(15, "play");
    }

    /** "It is at home at first, or with a desk, 0 to 5." */
    private static void homeAndDesks() {
        Run run = run("home and desks").told("copy 3").due(-1, "deskOf 0").refused("giveBack 0", "paste 0");
        for (int desk = 0; desk <= 5; desk++) {
            run.due(1, "lend 0 " + desk).due(desk, "deskOf 0").refused("lend 0 " + desk, "lend 0 " + (5 - desk));
            run.due(0, "paste 0").due(desk, "deskOf 0").due(0, "giveBack 0").due(-1, "deskOf 0").refused("giveBack 0");
        }
        run.noSuch("lend 0 6", "lend 0 -1", "lend 1 0").due(-1, "deskOf 0");
    }

    /** "If the copy is with a desk, or the desk has one of this instrument": each alone, and both. */
    private static void whoMayBorrow() {
        Run run = run("who may borrow").told("copy 0", "copy 0", "copy 4", "copy 4").due(1, "lend 0 2");
        run.refused("lend 0 3", "lend 1 2", "lend 0 2").due(2, "lend 2 2").refused("lend 3 2", "lend 2 5");
        run.due(3, "lend 1 3").due(4, "lend 3 0").due(0, "giveBack 0").refused("lend 1 2").due(4, "lend 0 2");
        run.due(0, "giveBack 0").due(0, "giveBack 1").due(3, "lend 1 2").refused("lend 0 2").due(4, "lend 0 3");
        run.due(2, "deskOf 1").due(3, "deskOf 0").due(2, "deskOf 2").due(0, "deskOf 3");
    }

    /** Each desk has room for one copy of each part: 16 copies fill three desks and one place. */
    private static void eachDesk() {
        for (int desk = 0; desk <= 5; desk++) {
            Run run = run("desk " + desk);
            for (int copy = 0; copy < 10; copy++) {
                run.told("copy " + copy % 5);
            }
            for (int copy = 0; copy < 5; copy++) {
                run.due(copy + 1, "lend " + copy + " " + desk).refused("lend " + (copy + 5) + " " + desk);
            }
            run.due(6, "lend 9 " + (desk + 1) % 6).refused("lend 8 " + desk).due(0, "giveBack 3").due(6, "lend 8 " + desk);
        }
    }

    /** The first and the last desk, instrument and bar keep marks and bowings of their own. */
    private static void corners() {
        Run run = run("corners").times(12, "bar 1").told("note 0 0 1 1", "note 0 11 1 1", "note 4 0 1 1", "note 4 11 1 1");
        run.told("copy 0", "copy 4", "copy 0", "copy 4", "lend 0 0", "lend 1 0", "lend 2 5", "lend 3 5");
        String[] bars = {"0 0", "0 11", "1 0", "1 11", "2 0", "2 11", "3 0", "3 11"};
        for (int i = 0; i < 8; i++) {
            run.due(0, "mark " + bars[i] + " " + (i + 1)).due(0, "bow " + bars[i] + " 0 " + (1 + i % 2));
        }
        run.due(1, "markOf 0 0 0").due(2, "markOf 0 0 11").due(3, "markOf 0 4 0").due(4, "markOf 0 4 11");
        run.due(5, "markOf 5 0 0").due(6, "markOf 5 0 11").due(7, "markOf 5 4 0").due(8, "markOf 5 4 11");
        run.due(0, "markOf 0 0 1").due(0, "markOf 0 4 10").due(0, "markOf 1 4 11").due(0, "markOf 4 0 0").due(0, "markOf 5 3 11");
        run.each("oldMarks #", 0, 0, 0, 0, 0, 0).told("empty 4 11").each("oldMarks #", 1, 0, 0, 0, 0, 1);
        run.told("empty 0 0", "mend 0 11 0 2", "mend 4 0 0 2").each("oldMarks #", 4, 0, 0, 0, 0, 4).each("clashes #", 0, 0, 0, 0, 0);
    }

    /** "At home it has all bars as they are at any time." */
    private static void atHome() {
        Run run = music("a copy at home").told("copy 1", "copy 0").due(2, "has 0 0").due(0, "has 1 0").due(0, "owed 0");
        run.told("mend 1 0 0 9").due(3, "has 0 0").due(2, "has 0 1").told("bar 1").due(0, "has 0 2").due(0, "has 1 2");
        run.told("note 1 2 1 1").due(1, "has 0 2").due(0, "owed 0").noSuch("has 0 3", "has 0 -1", "has 2 0");
        run.refused("mark 0 0 1", "bow 0 0 0 1", "play").due(1, "lend 0 0").due(3, "has 0 0").due(1, "has 0 2").due(0, "owed 0");
    }

    /** "It owes each bar that it lacks, or of which it has another version": none, some and all 12. */
    private static void debts() {
        Run run = run("debts").told("copy 2", "lend 0 5");
        for (int bar = 0; bar < 12; bar++) {
            run.due(bar, "owed 0").told("bar 1").due(-1, "has 0 " + bar).due(bar + 1, "owed 0");
        }
        run.refused("play", "mark 0 11 1", "mark 0 0 0").due(12, "paste 0").due(0, "owed 0").due(0, "paste 0").due(0, "has 0 11");
        for (int bar = 0; bar < 12; bar++) {
            run.told("note 2 " + bar + " 1 1").due(0, "has 0 " + bar).due(bar + 1, "owed 0");
            run.told("mend 2 " + bar + " 0 2").due(bar + 1, "owed 0");
        }
        run.due(12, "giveBack 0").due(0, "owed 0").due(2, "has 0 11").due(1, "lend 0 5").due(0, "owed 0").due(0, "giveBack 0");
    }

    /** A version never comes back, so a bar that is mended to and fro is owed. */
    private static void toAndFro() {
        Run run = music("mended to and fro").told("copy 1", "lend 0 0", "mend 1 0 0 6").due(1, "owed 0");
        run.told("mend 1 0 0 5").due(1, "owed 0").due(2, "has 0 0").due(2, "has 0 1").due(1, "paste 0").due(4, "has 0 0");
        run.told("mend 1 0 0 5").due(0, "owed 0").told("empty 0 0").due(0, "owed 0").told("note 0 0 1 1").due(0, "owed 0");
        run.told("empty 1 0").due(1, "owed 0").told("setPaper 80 1").due(1, "owed 0").told("note 1 0 1 1").due(1, "owed 0");
        run.told("note 1 1 1 1").due(2, "owed 0").due(2, "giveBack 0").due(0, "owed 0").refused("giveBack 0");
    }

    /** "When it is pasted, or given back, it owes none": this copy, and no other one. */
    private static void oneIsPasted() {
        Run run = desks("one copy is pasted").told("mend 1 0 0 6", "bar 4").each("owed #", 2, 2, 2, 2, 2, 2);
        run.due(2, "paste 3").due(2, "giveBack 4").each("owed #", 2, 2, 2, 0, 0, 2).due(3, "deskOf 3").due(-1, "deskOf 4");
        run.refused("play").due(2, "paste 0").due(2, "paste 1").due(2, "paste 2").refused("play").due(2, "paste 5");
        run.due(5, "play").told("mend 1 1 0 7").due(1, "giveBack 0").due(1, "giveBack 1").due(1, "giveBack 2");
        run.due(1, "giveBack 3").refused("play").due(1, "giveBack 5").refused("play").due(1, "concerts");
    }

    /** "A copy that lacks a bar" cannot be marked there; "one that owes a bar" can, for what it has. */
    private static void marksOfOlderVersions() {
        Run run = music("marks of older versions").told("copy 1", "lend 0 4", "bar 2").refused("mark 0 2 1", "mark 0 2 0");
        run.told("mend 1 0 0 6").due(0, "mark 0 0 3").due(3, "markOf 4 1 0").due(1, "oldMarks 4");
        run.due(0, "mark 0 1 9").due(1, "oldMarks 4").told("paste 0").due(1, "oldMarks 4").due(0, "mark 0 2 8");
        run.due(3, "mark 0 0 3").due(0, "oldMarks 4").due(3, "markOf 4 1 0").due(8, "markOf 4 1 2");
    }

    /** "1 to 9, or none": an old mark is still one; none is never old. */
    private static void oldMarks() {
        Run run = music("old marks").told("copy 1", "lend 0 0").due(0, "markOf 0 1 0").due(0, "oldMarks 0");
        run.due(0, "mark 0 0 1").due(1, "mark 0 0 9").due(9, "markOf 0 1 0").due(0, "oldMarks 0");
        run.told("note 1 1 1 1", "note 0 0 1 1", "mend 1 0 0 5").due(0, "oldMarks 0").told("note 1 0 1 1").due(1, "oldMarks 0");
        run.due(9, "markOf 0 1 0").told("mend 1 0 0 6").due(1, "oldMarks 0").due(9, "mark 0 0 0").due(0, "oldMarks 0");
        run.due(0, "markOf 0 1 0").due(0, "mark 0 0 0").due(0, "oldMarks 0").due(0, "mark 0 0 4").due(1, "oldMarks 0");
        run.due(2, "paste 0").due(1, "oldMarks 0").due(4, "mark 0 0 4").due(0, "oldMarks 0").told("mend 1 0 0 7").due(1, "oldMarks 0");
        run.told("mend 1 0 0 6").due(1, "oldMarks 0").told("paste 0", "mark 0 0 4").due(0, "oldMarks 0");
        run.told("empty 1 0").due(1, "oldMarks 0").due(4, "markOf 0 1 0").told("empty 1 0").due(1, "oldMarks 0");
    }

    /** "A desk keeps marks for itself, whichever copy it has": none, another one, one of another part. */
    private static void marksOfDesks() {
        Run run = music("marks of desks").told("copy 1", "copy 1", "copy 0", "lend 0 0", "mark 0 0 7", "giveBack 0");
        run.due(7, "markOf 0 1 0").told("lend 0 1").due(0, "mark 0 0 2").told("lend 1 0").due(7, "mark 1 0 8");
        run.told("lend 2 0").due(0, "mark 2 0 3").due(8, "markOf 0 1 0").due(3, "markOf 0 0 0").due(2, "markOf 1 1 0");
        run.told("mend 1 0 0 9").each("oldMarks #", 1, 1, 0, 0, 0, 0).told("note 0 0 1 1").each("oldMarks #", 2, 1, 0, 0, 0, 0);
    }

    /** "A bowing counts only for the version for which it was told", and is none before and behind. */
    private static void bowings() {
        Run run = music("bowings").told("copy 1", "copy 1", "lend 0 0", "lend 1 1").due(0, "bow 0 0 0 0").due(0, "bow 0 0 0 1");
        run.due(1, "bow 0 0 0 2").due(2, "bow 0 0 0 0").due(0, "bow 0 0 0 2").due(0, "bow 0 0 1 1").due(0, "bow 1 0 0 1");
        run.due(1, "clashes 1").told("mend 1 0 0 6").due(0, "clashes 1").refused("bow 0 0 0 1", "bow 0 0 0 0", "bow 1 0 1 0");
        run.due(0, "bow 0 1 0 1").told("paste 0").due(0, "bow 0 0 0 0").due(0, "bow 0 0 1 0").due(0, "clashes 1");
        run.told("mend 1 0 0 5", "paste 0", "paste 1").due(0, "clashes 1").due(0, "bow 1 0 0 1").due(0, "bow 0 0 0 2");
        run.due(1, "clashes 1").due(1, "bow 0 1 0 1").told("mend 1 0 0 5", "bar 1", "note 0 0 1 1").due(1, "clashes 1");
        run.told("note 1 0 1 0").due(0, "clashes 1").refused("bow 0 0 2 1").noSuch("bow 0 2 0 1", "bow 0 0 3 1");
    }

    /** "Each note there a bowing": of eight notes, rests among them, the first and the last. */
    private static void bowingsOfNotes() {
        Run run = run("bowings of eight notes").told("bar 8", "bar 8").times(8, "note 3 0 1 0").told("note 3 1 1 1");
        run.told("copy 3", "copy 3", "lend 0 2", "lend 1 3");
        for (int note = 0; note < 8; note++) {
            run.due(0, "bow 0 0 " + note + " " + (1 + note % 2)).due(note, "clashes 3").due(0, "bow 1 0 " + note + " " + (2 - note % 2));
        }
        run.due(8, "clashes 3").noSuch("bow 0 0 8 1", "bow 0 0 -1 1", "bow 0 1 1 1").due(1, "bow 0 0 0 0").due(7, "clashes 3");
        run.due(2, "bow 0 0 7 1").due(6, "clashes 3").due(1, "bow 1 0 7 0").due(6, "clashes 3").due(1, "bow 0 0 6 1");
        run.due(0, "bow 0 1 0 1").due(0, "bow 1 1 0 2").due(7, "clashes 3");
    }

    /** "Two desks are at one stand: 0 and 1, 2 and 3, 4 and 5": of all pairs only these clash. */
    private static void stands() {
        for (int one = 0; one < 6; one++) {
            for (int other = 0; other < 6; other++) {
                Run run = desks("desks " + one + " and " + other).told("bow " + one + " 0 0 1");
                if (one != other) {
                    run.told("bow " + other + " 0 0 2").due(one / 2 == other / 2 ? 1 : 0, "clashes 1");
                    run.told("bow " + one + " 0 0 2").due(0, "clashes 1").told("bow " + other + " 0 0 1");
                    run.due(one / 2 == other / 2 ? 1 : 0, "clashes 1").told("bow " + other + " 0 0 0");
                }
                run.due(0, "clashes 1").due(0, "clashes 0").due(0, "clashes 2");
            }
        }
    }

    /** "If both have a bowing that counts, and these differ", "of all three stands, each for itself". */
    private static void clashes() {
        Run run = desks("clashes").told("bow 0 0 0 1", "bow 2 0 0 2", "bow 4 0 0 1").due(0, "clashes 1");
        run.told("bow 1 0 0 2").due(1, "clashes 1").told("bow 3 0 0 1").due(2, "clashes 1").told("bow 5 0 0 2").due(3, "clashes 1");
        run.told("giveBack 0", "giveBack 1").due(3, "clashes 1").told("bow 4 1 1 1", "bow 5 1 1 2").due(4, "clashes 1");
        run.told("bow 5 1 1 1").due(3, "clashes 1").told("bow 5 0 0 0").due(2, "clashes 1").told("mend 1 1 0 9").due(2, "clashes 1");
        run.told("mend 1 0 1 9").due(0, "clashes 1").told("paste 2", "bow 2 0 0 2").due(0, "clashes 1");
        run.told("paste 3", "bow 3 0 0 1").due(1, "clashes 1").told("empty 1 0").due(0, "clashes 1");
    }

    /** "If none is, or one of them owes a bar": no copy, none lent, the first and the last one owes. */
    private static void concerts() {
        Run run = music("concerts").refused("play").told("copy 1", "copy 0").refused("play").due(0, "concerts");
        run.told("lend 0 0").due(1, "play").told("lend 1 0").due(2, "play").due(2, "concerts");
        run.told("mend 1 0 0 6").refused("play").told("paste 0").due(2, "play").told("note 0 1 1 1").refused("play");
        run.told("giveBack 1").due(1, "play").told("mend 1 0 0 7", "giveBack 0").refused("play").told("lend 1 5").due(1, "play");
        run.told("bar 1").refused("play").told("paste 1").due(1, "play").due(6, "concerts");
        Run last = music("the last copy owes a bar");
        for (int copy = 0; copy < 16; copy++) {
            last.told("copy " + copy % 5, "lend " + copy + " " + copy / 5);
        }
        last.due(16, "play").told("mend 1 0 0 6").refused("play").told("paste 1", "paste 6").refused("play").told("paste 11");
        last.due(16, "play").told("note 0 1 1 1", "paste 0", "paste 5", "paste 10").refused("play").told("paste 15").due(16, "play");
        last.due(3, "concerts").told("mark 15 0 9").due(16, "play").due(4, "concerts");
    }

    public static void main(String[] args) {
        numbers();
        homeAndDesks();
        whoMayBorrow();
        eachDesk();
        corners();
        atHome();
        debts();
        toAndFro();
        oneIsPasted();
        marksOfOlderVersions();
        oldMarks();
        marksOfDesks();
        bowings();
        bowingsOfNotes();
        stands();
        clashes();
        concerts();
        CHECK.end("CopiesEdgesTest");
    }
}
