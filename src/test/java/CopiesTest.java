/** Promises 7 to 13 and 30 to 37: copies are lent, pasted, marked, bowed and played from. */
public final class CopiesTest {
    private static final Check CHECK = new Check();
    private static final int[] FAR = {Integer.MIN_VALUE, -1, Integer.MAX_VALUE};

    /** Two bars of 8, in which each instrument has eight notes. */
    private static Stavehouse withMusic() {
        Stavehouse x = new Stavehouse();
        for (int bar = 0; bar < 2; bar++) {
            x.bar(8);
            for (int instrument = 0; instrument < 5; instrument++) {
                for (int i = 0; i < 8; i++) {
                    x.note(instrument, bar, 1, 10 + i);
                }
            }
        }
        return x;
    }

    /** The same, and copies 0 to 5 of the part 0 with the desks 0 to 5. */
    private static Stavehouse withDesks() {
        Stavehouse x = withMusic();
        for (int desk = 0; desk < 6; desk++) {
            x.copy(0);
            x.lend(desk, desk);
        }
        return x;
    }

    private static void promises7And30Copy() {
        Stavehouse x = new Stavehouse();
        CHECK.noSuch("copy(-1)", () -> x.copy(-1));
        CHECK.noSuch("copy(5)", () -> x.copy(5));
        CHECK.due("none is made by then", x.copies(), 0);
        for (int i = 0; i < 16; i++) {
            CHECK.due("copy " + i, x.copy(i % 5), i);
            CHECK.due("copies", x.copies(), i + 1);
        }
        CHECK.refused("a 17th copy", () -> x.copy(0));
        CHECK.noSuch("a 17th copy of no instrument", () -> x.copy(5));
        CHECK.due("copies in the end", x.copies(), 16);
        CHECK.due("the last copy can be lent", x.lend(15, 5), 1);
    }

    private static void promises8And31Lend() {
        Stavehouse x = withMusic();
        x.copy(0);
        x.copy(0);
        x.copy(4);
        CHECK.due("at home at first", x.deskOf(0), -1);
        CHECK.due("lend", x.lend(0, 5), 1);
        CHECK.due("deskOf", x.deskOf(0), 5);
        CHECK.refused("lend it again", () -> x.lend(0, 4));
        CHECK.refused("lend it to the same desk again", () -> x.lend(0, 5));
        CHECK.refused("a second copy of a part at a desk", () -> x.lend(1, 5));
        CHECK.due("nothing has changed", x.deskOf(1), -1);
        CHECK.due("a copy of another part at this desk", x.lend(2, 5), 2);
        CHECK.due("a copy of this part at another desk", x.lend(1, 0), 3);
        x.giveBack(0);
        x.giveBack(1);
        CHECK.due("the desk is free for this part again", x.lend(1, 5), 2);
        for (int far : FAR) {
            CHECK.noSuch("lend(" + far + ", 0)", () -> x.lend(far, 0));
            CHECK.noSuch("lend(0, " + far + ")", () -> x.lend(0, far));
            CHECK.noSuch("deskOf(" + far + ")", () -> x.deskOf(far));
        }
        CHECK.noSuch("lend(3, 0)", () -> x.lend(3, 0));
        CHECK.noSuch("lend(0, 6)", () -> x.lend(0, 6));
        CHECK.noSuch("a copy that is out to no desk", () -> x.lend(1, 6));
        CHECK.noSuch("deskOf(3)", () -> x.deskOf(3));
    }

    private static void promises9And10And32And33Debts() {
        Stavehouse x = withMusic();
        x.copy(0);
        x.copy(1);
        CHECK.due("at home it has the score's version", x.has(0, 1), 8);
        x.mend(0, 1, 0, 60);
        CHECK.due("at any time", x.has(0, 1), 9);
        CHECK.due("at home it owes nothing", x.owed(0), 0);
        CHECK.refused("giveBack at home", () -> x.giveBack(0));
        CHECK.refused("paste at home", () -> x.paste(0));
        x.lend(0, 2);
        x.lend(1, 2);
        CHECK.due("lent as it is", x.owed(0), 0);
        x.mend(0, 1, 0, 59);
        x.mend(0, 1, 1, 59);
        CHECK.due("what is mended is owed, once a bar", x.owed(0), 1);
        CHECK.due("another part owes nothing", x.owed(1), 0);
        CHECK.due("it has the version that it was lent with", x.has(0, 1), 9);
        x.bar(4);
        CHECK.due("a new bar is owed", x.owed(0), 2);
        CHECK.due("by all copies that are out", x.owed(1), 1);
        CHECK.due("it lacks the bar", x.has(0, 2), -1);
        x.mend(0, 1, 0, 60);
        x.mend(0, 1, 0, 60);
        CHECK.due("a bar that is as it was has another version all the same", x.owed(0), 2);
        CHECK.due("paste", x.paste(0), 2);
        CHECK.due("it owes none", x.owed(0), 0);
        CHECK.due("it stays at its desk", x.deskOf(0), 2);
        CHECK.due("it has the new version", x.has(0, 1), 12);
        CHECK.due("and the new bar", x.has(0, 2), 0);
        CHECK.due("paste again", x.paste(0), 0);
        x.empty(0, 0);
        CHECK.due("giveBack", x.giveBack(0), 1);
        CHECK.due("at home", x.deskOf(0), -1);
        CHECK.due("it owes none at home", x.owed(0), 0);
        CHECK.due("it has all as it is", x.has(0, 0), 9);
        CHECK.refused("giveBack again", () -> x.giveBack(0));
        CHECK.due("giveBack another", x.giveBack(1), 1);
    }

    private static void promises9And10And32And33WrongInputs() {
        Stavehouse x = withMusic();
        CHECK.noSuch("giveBack(0) without copies", () -> x.giveBack(0));
        CHECK.noSuch("paste(0) without copies", () -> x.paste(0));
        CHECK.noSuch("has(0, 0) without copies", () -> x.has(0, 0));
        CHECK.noSuch("owed(0) without copies", () -> x.owed(0));
        x.copy(0);
        for (int far : new int[] {Integer.MIN_VALUE, -1, 1, 16, Integer.MAX_VALUE}) {
            CHECK.noSuch("giveBack(" + far + ")", () -> x.giveBack(far));
            CHECK.noSuch("paste(" + far + ")", () -> x.paste(far));
            CHECK.noSuch("has(" + far + ", 0)", () -> x.has(far, 0));
            CHECK.noSuch("owed(" + far + ")", () -> x.owed(far));
        }
        CHECK.noSuch("has(0, -1)", () -> x.has(0, -1));
        CHECK.noSuch("has(0, 2)", () -> x.has(0, 2));
        x.lend(0, 0);
        CHECK.noSuch("has(0, 2) with a desk", () -> x.has(0, 2));
    }

    private static void promises11And34And35Marks() {
        Stavehouse x = withMusic();
        x.copy(3);
        x.copy(3);
        x.lend(0, 4);
        CHECK.due("no mark at first", x.markOf(4, 3, 1), 0);
        CHECK.due("mark", x.mark(0, 1, 9), 0);
        CHECK.due("markOf", x.markOf(4, 3, 1), 9);
        CHECK.due("the other bar", x.markOf(4, 3, 0), 0);
        CHECK.due("the other instrument", x.markOf(4, 2, 1), 0);
        CHECK.due("the other desk", x.markOf(5, 3, 1), 0);
        CHECK.due("none is old", x.oldMarks(4), 0);
        x.mend(2, 1, 0, 60);
        CHECK.due("another part's change makes none old", x.oldMarks(4), 0);
        x.mend(3, 1, 0, 60);
        CHECK.due("an old one", x.oldMarks(4), 1);
        CHECK.due("is still a mark", x.markOf(4, 3, 1), 9);
        CHECK.due("it is not another desk's", x.oldMarks(5), 0);
        CHECK.due("mark for the version that the copy has", x.mark(0, 1, 1), 9);
        CHECK.due("which is old", x.oldMarks(4), 1);
        x.paste(0);
        CHECK.due("pasting makes no mark new", x.oldMarks(4), 1);
        CHECK.due("mark again", x.mark(0, 1, 2), 1);
        CHECK.due("for the new version", x.oldMarks(4), 0);
        x.mark(0, 0, 5);
        x.empty(3, 0);
        x.empty(3, 1);
        CHECK.due("two old ones", x.oldMarks(4), 2);
        CHECK.due("take a mark away", x.mark(0, 1, 0), 2);
        CHECK.due("none is none", x.markOf(4, 3, 1), 0);
        CHECK.due("and not old", x.oldMarks(4), 1);
        CHECK.due("take it away again", x.mark(0, 1, 0), 0);
        x.giveBack(0);
        CHECK.due("the desk keeps it", x.markOf(4, 3, 0), 5);
        x.lend(0, 5);
        x.lend(1, 4);
        CHECK.due("whichever copy it has", x.mark(1, 0, 6), 5);
        CHECK.due("another desk has none", x.mark(0, 0, 7), 0);
    }

    /** Each bar of each instrument is counted, from the first to the last. */
    private static void promise35AllBars() {
        Stavehouse x = new Stavehouse();
        for (int bar = 0; bar < 12; bar++) {
            x.bar(1);
        }
        for (int instrument = 0; instrument < 5; instrument++) {
            x.copy(instrument);
            x.lend(instrument, 3);
            for (int bar = 0; bar < 12; bar++) {
                x.mark(instrument, bar, 1 + (instrument + bar) % 9);
            }
        }
        int old = 0;
        for (int instrument = 0; instrument < 5; instrument++) {
            for (int bar = 0; bar < 12; bar++) {
                CHECK.due("old marks", x.oldMarks(3), old);
                CHECK.due("markOf", x.markOf(3, instrument, bar), 1 + (instrument + bar) % 9);
                x.note(instrument, bar, 1, 1);
                old++;
            }
        }
        CHECK.due("all are old", x.oldMarks(3), 60);
    }

    private static void promise11WrongInputs() {
        Stavehouse x = withMusic();
        x.copy(3);
        CHECK.refused("mark at home", () -> x.mark(0, 0, 1));
        CHECK.outOfRange("mark at home with a wrong sign", () -> x.mark(0, 0, 10));
        x.lend(0, 0);
        x.bar(4);
        CHECK.refused("mark a bar that the copy lacks", () -> x.mark(0, 2, 1));
        CHECK.refused("take a mark off a bar that the copy lacks", () -> x.mark(0, 2, 0));
        CHECK.outOfRange("with a wrong sign", () -> x.mark(0, 2, -1));
        CHECK.noSuch("mark(-1, 0, 1)", () -> x.mark(-1, 0, 1));
        CHECK.noSuch("mark(1, 0, 1)", () -> x.mark(1, 0, 1));
        CHECK.noSuch("mark(0, -1, 1)", () -> x.mark(0, -1, 1));
        CHECK.noSuch("mark(0, 3, 1)", () -> x.mark(0, 3, 1));
        CHECK.noSuch("no bar and a wrong sign", () -> x.mark(0, 3, 10));
        CHECK.noSuch("no copy and a wrong sign", () -> x.mark(1, 0, 10));
        CHECK.outOfRange("mark(0, 0, 10)", () -> x.mark(0, 0, 10));
        CHECK.outOfRange("mark(0, 0, -1)", () -> x.mark(0, 0, -1));
        CHECK.due("nothing has changed", x.markOf(0, 3, 0), 0);
        for (int far : FAR) {
            CHECK.noSuch("markOf(" + far + ", 0, 0)", () -> x.markOf(far, 0, 0));
            CHECK.noSuch("markOf(0, " + far + ", 0)", () -> x.markOf(0, far, 0));
            CHECK.noSuch("markOf(0, 0, " + far + ")", () -> x.markOf(0, 0, far));
            CHECK.noSuch("oldMarks(" + far + ")", () -> x.oldMarks(far));
        }
        CHECK.noSuch("markOf(6, 0, 0)", () -> x.markOf(6, 0, 0));
        CHECK.noSuch("markOf(0, 5, 0)", () -> x.markOf(0, 5, 0));
        CHECK.noSuch("markOf(0, 0, 3)", () -> x.markOf(0, 0, 3));
        CHECK.noSuch("oldMarks(6)", () -> x.oldMarks(6));
        CHECK.due("markOf the greatest", x.markOf(5, 4, 2), 0);
        CHECK.due("oldMarks of the greatest", x.oldMarks(5), 0);
    }

    private static void promise12Bow() {
        Stavehouse x = withDesks();
        for (int note = 0; note < 8; note++) {
            CHECK.due("none at first", x.bow(0, 1, note, 1 + note % 2), 0);
        }
        for (int note = 0; note < 8; note++) {
            CHECK.due("each note has its own", x.bow(0, 1, note, 2 - note % 2), 1 + note % 2);
        }
        CHECK.due("the other bar has none", x.bow(0, 0, 3, 1), 0);
        CHECK.due("the other desk has none", x.bow(1, 1, 3, 1), 0);
        CHECK.due("take it away", x.bow(0, 1, 7, 0), 1);
        CHECK.due("none", x.bow(0, 1, 7, 0), 0);
        CHECK.due("the neighbour's stays", x.bow(0, 1, 6, 2), 2);
        x.mend(0, 1, 0, 60);
        CHECK.refused("a bar that is owed", () -> x.bow(0, 1, 0, 1));
        CHECK.due("the other bar is not owed", x.bow(0, 0, 3, 2), 1);
        x.paste(0);
        CHECK.due("what was told for another version counts no more", x.bow(0, 1, 6, 1), 0);
        CHECK.due("nor does its neighbour's", x.bow(0, 1, 5, 0), 0);
        CHECK.due("nor does the first note's", x.bow(0, 1, 0, 0), 0);
        CHECK.due("what is told now counts", x.bow(0, 1, 6, 1), 1);
        x.giveBack(0);
        x.copy(0);
        x.lend(6, 0);
        CHECK.due("the desk keeps it, whichever copy it has", x.bow(6, 1, 6, 2), 1);
        x.bar(4);
        x.note(0, 2, 4, 1);
        CHECK.refused("a bar that the copy lacks", () -> x.bow(6, 2, 0, 1));
    }

    private static void promise12WrongInputs() {
        Stavehouse x = withMusic();
        x.bar(4);
        x.note(1, 2, 4, 1);
        x.copy(0);
        CHECK.refused("bow at home", () -> x.bow(0, 0, 0, 1));
        CHECK.outOfRange("bow at home, wrong", () -> x.bow(0, 0, 0, 3));
        x.lend(0, 0);
        CHECK.noSuch("bow(-1, 0, 0, 1)", () -> x.bow(-1, 0, 0, 1));
        CHECK.noSuch("bow(1, 0, 0, 1)", () -> x.bow(1, 0, 0, 1));
        CHECK.noSuch("bow(0, -1, 0, 1)", () -> x.bow(0, -1, 0, 1));
        CHECK.noSuch("bow(0, 3, 0, 1)", () -> x.bow(0, 3, 0, 1));
        CHECK.noSuch("bow(0, 0, -1, 1)", () -> x.bow(0, 0, -1, 1));
        CHECK.noSuch("bow(0, 0, 8, 1)", () -> x.bow(0, 0, 8, 1));
        CHECK.noSuch("another's note", () -> x.bow(0, 2, 0, 1));
        CHECK.noSuch("no note, and wrong", () -> x.bow(0, 2, 0, 3));
        CHECK.outOfRange("bow(0, 0, 0, 3)", () -> x.bow(0, 0, 0, 3));
        CHECK.outOfRange("bow(0, 0, 0, -1)", () -> x.bow(0, 0, 0, -1));
        x.mend(0, 0, 0, 60);
        CHECK.outOfRange("wrong in a bar that is owed", () -> x.bow(0, 0, 0, 3));
        x.empty(0, 0);
        CHECK.noSuch("a note that is no more, in a bar that is owed", () -> x.bow(0, 0, 0, 1));
    }

    private static void promise36Clashes() {
        Stavehouse x = withDesks();
        x.bow(0, 0, 0, 1);
        CHECK.due("one has none", x.clashes(0), 0);
        x.bow(1, 0, 1, 2);
        CHECK.due("another note", x.clashes(0), 0);
        x.bow(1, 1, 0, 2);
        CHECK.due("another bar", x.clashes(0), 0);
        x.bow(1, 0, 0, 1);
        CHECK.due("the same", x.clashes(0), 0);
        x.bow(2, 0, 0, 2);
        CHECK.due("desks of two stands", x.clashes(0), 0);
        x.bow(1, 0, 0, 2);
        CHECK.due("a clash", x.clashes(0), 1);
        x.bow(3, 0, 0, 1);
        CHECK.due("each stand for itself", x.clashes(0), 2);
        x.bow(4, 1, 7, 2);
        x.bow(5, 1, 7, 1);
        CHECK.due("the third stand, the last note", x.clashes(0), 3);
        x.bow(0, 0, 1, 1);
        CHECK.due("each note for itself", x.clashes(0), 4);
        CHECK.due("another instrument", x.clashes(1), 0);
        x.giveBack(4);
        CHECK.due("the desk keeps its bowings", x.clashes(0), 4);
        x.bow(5, 1, 7, 0);
        CHECK.due("none does not clash", x.clashes(0), 3);
        x.mend(0, 0, 5, 60);
        CHECK.due("another version: none counts", x.clashes(0), 0);
        x.paste(0);
        x.bow(0, 0, 0, 1);
        CHECK.due("one counts", x.clashes(0), 0);
        x.paste(1);
        x.bow(1, 0, 0, 2);
        CHECK.due("both count", x.clashes(0), 1);
        x.empty(0, 0);
        CHECK.due("no notes", x.clashes(0), 0);
        for (int far : FAR) {
            CHECK.noSuch("clashes(" + far + ")", () -> x.clashes(far));
        }
        CHECK.noSuch("clashes(5)", () -> x.clashes(5));
        CHECK.due("clashes(4)", x.clashes(4), 0);
    }

    /** 12 bars: the last one of each instrument is its own. */
    private static void promise36AllBars() {
        Stavehouse x = new Stavehouse();
        for (int bar = 0; bar < 12; bar++) {
            x.bar(1);
        }
        for (int instrument = 0; instrument < 5; instrument++) {
            x.note(instrument, 0, 1, 1);
            x.note(instrument, 11, 1, 1);
            for (int desk = 4; desk < 6; desk++) {
                int copy = x.copy(instrument);
                x.lend(copy, desk);
                x.bow(copy, 0, 0, desk - 3);
                x.bow(copy, 11, 0, desk - 3);
            }
        }
        for (int instrument = 0; instrument < 5; instrument++) {
            CHECK.due("clashes(" + instrument + ")", x.clashes(instrument), 2);
        }
    }

    private static void promise13AllCopies() {
        Stavehouse x = withMusic();
        for (int i = 0; i < 16; i++) {
            x.copy(i % 5);
            x.lend(i, i / 5);
        }
        CHECK.due("16 copies play", x.play(), 16);
        x.mend(0, 0, 0, 60);
        x.paste(0);
        x.paste(5);
        x.paste(10);
        CHECK.refused("the last copy owes a bar", x::play);
        CHECK.due("it is pasted", x.paste(15), 1);
        CHECK.due("16 copies play again", x.play(), 16);
    }

    private static void promises13And37Play() {
        Stavehouse x = withMusic();
        CHECK.refused("no copies", x::play);
        x.copy(0);
        x.copy(1);
        x.copy(2);
        CHECK.refused("all at home", x::play);
        x.lend(0, 0);
        x.lend(1, 0);
        CHECK.due("play", x.play(), 2);
        CHECK.due("play again", x.play(), 2);
        CHECK.due("concerts", x.concerts(), 2);
        x.mend(2, 0, 0, 60);
        CHECK.due("a copy at home owes nothing", x.play(), 2);
        x.mend(1, 0, 0, 60);
        CHECK.refused("one owes a bar", x::play);
        CHECK.due("no concert", x.concerts(), 3);
        x.giveBack(1);
        CHECK.due("without it", x.play(), 1);
        x.bar(1);
        CHECK.refused("a new bar", x::play);
        x.paste(0);
        x.lend(2, 5);
        CHECK.due("pasted", x.play(), 2);
        CHECK.due("concerts in the end", x.concerts(), 5);
    }

    public static void main(String[] args) {
        promises7And30Copy();
        promises8And31Lend();
        promises9And10And32And33Debts();
        promises9And10And32And33WrongInputs();
        promises11And34And35Marks();
        promise35AllBars();
        promise11WrongInputs();
        promise12Bow();
        promise12WrongInputs();
        promise36Clashes();
        promise36AllBars();
        promise13AllCopies();
        promises13And37Play();
        CHECK.end("CopiesTest");
    }
}
