import java.lang.management.ManagementFactory;

/** All calls of one run live in one room, of some 7 million fields and elements: this is far below. */
public final class RoomTest {
    private static final Check CHECK = new Check();
    private static final int MOST_BYTES_OF_AN_OBJECT = 200_000;
    private static final int MOST_BYTES_OF_A_RUN = 8_000_000;
    private static final int ROUNDS = 20;

    private static final com.sun.management.ThreadMXBean MACHINE =
            (com.sun.management.ThreadMXBean) ManagementFactory.getThreadMXBean();

    private static long bytesMade() {
        return MACHINE.getCurrentThreadAllocatedBytes();
    }

    private static int callsOf(Stavehouse x) {
        int sum = 0;
        for (int bar = 0; bar < 12; bar++) {
            sum += x.bar(32);
            for (int note = 0; note < 8; note++) {
                sum += x.note(bar % 5, bar, 2, note);
            }
        }
        for (int i = 0; i < 16; i++) {
            sum += x.copy(i % 5);
            sum += x.lend(i, i / 5);
        }
        for (int book = 0; book <= 5; book++) {
            sum += x.items(book) + x.itemOf(book, 11) + x.width(book, 0) + x.lines(book) + x.lineOf(book, 11);
            sum += x.cost(book) + x.costByAll(book) + x.turns(book) + x.place(book, 0, 0);
        }
        sum += x.mark(0, 0, 1) + x.bow(0, 0, 0, 1) + x.clashes(0) + x.oldMarks(0) + x.play();
        sum += x.mend(0, 0, 0, 9) + x.paste(0) + x.giveBack(0) + x.empty(0, 0) + x.cue(0, 0);
        for (int i = 0; i < 75; i++) {
            sum += x.costByAll(5) + x.cost(5) + x.place(5, 11, 0) + x.lineOf(0, 11);
        }
        return sum;
    }

    /** The machine makes things of its own now and then: the least of several rounds is the program's. */
    public static void main(String[] args) {
        long object = Long.MAX_VALUE;
        long calls = Long.MAX_VALUE;
        for (int round = 0; round < ROUNDS; round++) {
            long first = bytesMade();
            long ahead = bytesMade();
            Stavehouse x = new Stavehouse();
            long made = bytesMade();
            callsOf(x);
            long behind = bytesMade();
            object = Math.min(object, made - ahead - (ahead - first));
            calls = Math.min(calls, behind - made - (ahead - first));
        }
        CHECK.same("an object is small", object < MOST_BYTES_OF_AN_OBJECT ? "yes" : "no: " + object, "yes");
        CHECK.same("the calls make little", calls < MOST_BYTES_OF_A_RUN ? "yes" : "no: " + calls, "yes");
        System.out.println("bytes made: an object " + object + ", its calls " + Math.max(0, calls));
        CHECK.end("RoomTest");
    }
}
