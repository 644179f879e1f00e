/** Promises 1 to 6 and 14 to 19: the score is told and asked. */
public final class ScoreTest {
    private static final Check CHECK = new Check();
    private static final int[] OUTSIDE_INSTRUMENTS = {-1, 5, Integer.MIN_VALUE, Integer.MAX_VALUE};

    private static Stavehouse withBars(int... lengths) {
        Stavehouse x = new Stavehouse();
        for (int length : lengths) {
            x.bar(length);
        }
        return x;
    }

    private static void promise1NewObject() {
        Stavehouse x = new Stavehouse();
        CHECK.due("new: bars", x.bars(), 0);
        CHECK.due("new: copies", x.copies(), 0);
        CHECK.due("new: concerts", x.concerts(), 0);
        CHECK.due("new: time(0)", x.time(0), 0);
        CHECK.due("new: the paper's width", x.setPaper(100, 1), 200);
        x.bar(4);
        x.copy(0);
        Stavehouse other = new Stavehouse();
        CHECK.due("another new: bars", other.bars(), 0);
        CHECK.due("another new: copies", other.copies(), 0);
        CHECK.due("another new: the paper's width", other.setPaper(100, 1), 200);
    }

    private static void promise2Bar() {
        Stavehouse x = new Stavehouse();
        CHECK.outOfRange("bar(0)", () -> x.bar(0));
        CHECK.outOfRange("bar(33)", () -> x.bar(33));
        CHECK.outOfRange("bar(-1)", () -> x.bar(-1));
        CHECK.outOfRange("bar(least)", () -> x.bar(Integer.MIN_VALUE));
        CHECK.outOfRange("bar(greatest)", () -> x.bar(Integer.MAX_VALUE));
        CHECK.due("no bar is there by then", x.bars(), 0);
        CHECK.due("bar(1)", x.bar(1), 0);
        CHECK.due("bar(32)", x.bar(32), 1);
        for (int i = 2; i < 12; i++) {
            CHECK.due("bar(4)", x.bar(4), i);
        }
        CHECK.due("a bar has no notes", x.notes(4, 11), 0);
        CHECK.due("a bar has version 0", x.version(4, 11), 0);
        CHECK.refused("the 13th bar", () -> x.bar(4));
        CHECK.outOfRange("the 13th bar, of a wrong length", () -> x.bar(33));
        CHECK.due("bars", x.bars(), 12);
        CHECK.due("the end", x.time(12), 73);
    }

    private static void promise3Note() {
        Stavehouse x = withBars(8, 32);
        CHECK.due("the first note", x.note(0, 0, 1, 60), 1);
        CHECK.due("a rest", x.note(0, 0, 1, 0), 2);
        for (int i = 3; i <= 8; i++) {
            CHECK.due("note " + i, x.note(0, 0, 1, 1), i);
        }
        CHECK.refused("a ninth note", () -> x.note(0, 0, 1, 1));
        for (int i = 0; i < 8; i++) {
            x.note(0, 1, 1, 1);
        }
        CHECK.refused("a ninth note in a bar with room", () -> x.note(0, 1, 1, 1));
        CHECK.due("the longest note", x.note(1, 1, 32, 1), 1);
        CHECK.refused("a note in a full bar", () -> x.note(1, 1, 1, 0));
        CHECK.due("a note of another instrument", x.note(4, 0, 7, 5), 1);
        CHECK.refused("a note that is too long by one", () -> x.note(4, 0, 2, 5));
        CHECK.refused("a note much longer than the bar", () -> x.note(3, 0, 32, 5));
        CHECK.due("a note that just fits", x.note(4, 0, 1, 5), 2);
        CHECK.due("the notes of one instrument are not the other's", x.notes(3, 0), 0);
    }

    private static void promise3WrongInputs() {
        Stavehouse x = withBars(8);
        for (int i : OUTSIDE_INSTRUMENTS) {
            CHECK.noSuch("note(" + i + ", 0, 1, 1)", () -> x.note(i, 0, 1, 1));
        }
        CHECK.noSuch("note(0, -1, 1, 1)", () -> x.note(0, -1, 1, 1));
        CHECK.noSuch("note(0, 1, 1, 1)", () -> x.note(0, 1, 1, 1));
        CHECK.noSuch("note(0, 12, 1, 1)", () -> x.note(0, 12, 1, 1));
        CHECK.noSuch("note(0, greatest, 1, 1)", () -> x.note(0, Integer.MAX_VALUE, 1, 1));
        CHECK.noSuch("no bar, wrong length", () -> x.note(0, 1, 0, 61));
        CHECK.outOfRange("note(0, 0, 0, 1)", () -> x.note(0, 0, 0, 1));
        CHECK.outOfRange("note(0, 0, 33, 1)", () -> x.note(0, 0, 33, 1));
        CHECK.outOfRange("note(0, 0, greatest, 1)", () -> x.note(0, 0, Integer.MAX_VALUE, 1));
        CHECK.outOfRange("note(0, 0, 1, -1)", () -> x.note(0, 0, 1, -1));
        CHECK.outOfRange("note(0, 0, 1, 61)", () -> x.note(0, 0, 1, 61));
        CHECK.outOfRange("too long and of a wrong pitch", () -> x.note(0, 0, 9, 61));
        CHECK.refused("too long", () -> x.note(0, 0, 9, 60));
        CHECK.due("nothing has changed: notes", x.notes(0, 0), 0);
        CHECK.due("nothing has changed: version", x.version(0, 0), 0);
    }

    private static void promise4Mend() {
        Stavehouse x = withBars(8);
        x.note(2, 0, 2, 30);
        x.note(2, 0, 3, 0);
        CHECK.due("mend", x.mend(2, 0, 1, 60), 0);
        CHECK.due("the mended note", x.noteAt(2, 0, 1), 360);
        CHECK.due("the other note", x.noteAt(2, 0, 0), 230);
        CHECK.due("the version", x.version(2, 0), 3);
        CHECK.due("mend to the same", x.mend(2, 0, 1, 60), 60);
        CHECK.due("that is no change", x.version(2, 0), 3);
        CHECK.due("mend to a rest", x.mend(2, 0, 0, 0), 30);
        CHECK.due("that is a change", x.version(2, 0), 4);
        CHECK.due("and a rest", x.noteAt(2, 0, 0), 200);
        CHECK.noSuch("mend(-1, 0, 0, 1)", () -> x.mend(-1, 0, 0, 1));
        CHECK.noSuch("mend(5, 0, 0, 1)", () -> x.mend(5, 0, 0, 1));
        CHECK.noSuch("mend(2, -1, 0, 1)", () -> x.mend(2, -1, 0, 1));
        CHECK.noSuch("mend(2, 1, 0, 1)", () -> x.mend(2, 1, 0, 1));
        CHECK.noSuch("mend(2, 0, -1, 1)", () -> x.mend(2, 0, -1, 1));
        CHECK.noSuch("mend(2, 0, 2, 1)", () -> x.mend(2, 0, 2, 1));
        CHECK.noSuch("mend a note of one that has none", () -> x.mend(1, 0, 0, 1));
        CHECK.noSuch("no note, wrong pitch", () -> x.mend(2, 0, 2, 61));
        CHECK.outOfRange("mend(2, 0, 0, 61)", () -> x.mend(2, 0, 0, 61));
        CHECK.outOfRange("mend(2, 0, 0, -1)", () -> x.mend(2, 0, 0, -1));
        CHECK.due("nothing has changed", x.version(2, 0), 4);
    }

    private static void promise5Empty() {
        Stavehouse x = withBars(8, 8);
        x.note(3, 1, 1, 1);
        x.note(3, 1, 1, 0);
        x.note(2, 1, 1, 1);
        CHECK.due("empty", x.empty(3, 1), 2);
        CHECK.due("no notes", x.notes(3, 1), 0);
        CHECK.due("one change", x.version(3, 1), 3);
        CHECK.due("empty again", x.empty(3, 1), 0);
        CHECK.due("no change", x.version(3, 1), 3);
        CHECK.due("another's notes stay", x.notes(2, 1), 1);
        CHECK.due("another's version stays", x.version(2, 1), 1);
        CHECK.due("there is room again", x.note(3, 1, 8, 7), 1);
        CHECK.due("the new note", x.noteAt(3, 1, 0), 807);
        CHECK.noSuch("the note that was", () -> x.noteAt(3, 1, 1));
        CHECK.noSuch("empty(-1, 0)", () -> x.empty(-1, 0));
        CHECK.noSuch("empty(5, 0)", () -> x.empty(5, 0));
        CHECK.noSuch("empty(0, -1)", () -> x.empty(0, -1));
        CHECK.noSuch("empty(0, 2)", () -> x.empty(0, 2));
    }

    private static void promise6SetPaper() {
        Stavehouse x = new Stavehouse();
        CHECK.due("setPaper(80, 1)", x.setPaper(80, 1), 200);
        CHECK.due("setPaper(500, 6)", x.setPaper(500, 6), 80);
        CHECK.outOfRange("setPaper(79, 1)", () -> x.setPaper(79, 1));
        CHECK.outOfRange("setPaper(501, 1)", () -> x.setPaper(501, 1));
        CHECK.outOfRange("setPaper(80, 0)", () -> x.setPaper(80, 0));
        CHECK.outOfRange("setPaper(80, 7)", () -> x.setPaper(80, 7));
        CHECK.outOfRange("setPaper(least, 1)", () -> x.setPaper(Integer.MIN_VALUE, 1));
        CHECK.outOfRange("setPaper(80, greatest)", () -> x.setPaper(80, Integer.MAX_VALUE));
        CHECK.due("nothing has changed", x.setPaper(90, 2), 500);
    }

    private static void promises14To17Asked() {
        Stavehouse x = withBars(16, 4);
        x.note(0, 0, 16, 60);
        x.note(4, 1, 1, 0);
        x.note(4, 1, 3, 9);
        CHECK.due("bars", x.bars(), 2);
        CHECK.due("notes(4, 1)", x.notes(4, 1), 2);
        CHECK.due("noteAt(0, 0, 0)", x.noteAt(0, 0, 0), 1660);
        CHECK.due("noteAt(4, 1, 0)", x.noteAt(4, 1, 0), 100);
        CHECK.due("noteAt(4, 1, 1)", x.noteAt(4, 1, 1), 309);
        CHECK.due("version(4, 1)", x.version(4, 1), 2);
        CHECK.due("version(4, 0)", x.version(4, 0), 0);
        for (int i : OUTSIDE_INSTRUMENTS) {
            CHECK.noSuch("notes(" + i + ", 0)", () -> x.notes(i, 0));
            CHECK.noSuch("noteAt(" + i + ", 0, 0)", () -> x.noteAt(i, 0, 0));
            CHECK.noSuch("version(" + i + ", 0)", () -> x.version(i, 0));
        }
        for (int i : new int[] {-1, 2, 12, Integer.MIN_VALUE, Integer.MAX_VALUE}) {
            CHECK.noSuch("notes(0, " + i + ")", () -> x.notes(0, i));
            CHECK.noSuch("noteAt(0, " + i + ", 0)", () -> x.noteAt(0, i, 0));
            CHECK.noSuch("version(0, " + i + ")", () -> x.version(0, i));
            CHECK.noSuch("noteAt(4, 1, " + i + ")", () -> x.noteAt(4, 1, i));
        }
    }

    private static void promises18And19Time() {
        Stavehouse x = new Stavehouse();
        CHECK.noSuch("time(1) without bars", () -> x.time(1));
        CHECK.noSuch("timeByBars(1) without bars", () -> x.timeByBars(1));
        CHECK.due("timeByBars(0) without bars", x.timeByBars(0), 0);
        int sum = 0;
        for (int i = 0; i < 12; i++) {
            x.bar(i + 3);
            CHECK.due("time(" + i + ")", x.time(i), sum);
            CHECK.due("timeByBars(" + i + ")", x.timeByBars(i), sum);
            sum += i + 3;
        }
        CHECK.due("time(12)", x.time(12), 102);
        CHECK.due("timeByBars(12)", x.timeByBars(12), 102);
        for (int i : new int[] {-1, 13, Integer.MIN_VALUE, Integer.MAX_VALUE}) {
            CHECK.noSuch("time(" + i + ")", () -> x.time(i));
            CHECK.noSuch("timeByBars(" + i + ")", () -> x.timeByBars(i));
        }
    }

    public static void main(String[] args) {
        promise1NewObject();
        promise2Bar();
        promise3Note();
        promise3WrongInputs();
        promise4Mend();
        promise5Empty();
        promise6SetPaper();
        promises14To17Asked();
        promises18And19Time();
        CHECK.end("ScoreTest");
    }
}
