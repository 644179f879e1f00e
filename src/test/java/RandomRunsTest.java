import java.lang.reflect.InvocationTargetException;
import java.lang.reflect.Method;
import java.util.ArrayList;
import java.util.HashMap;
import java.util.List;
import java.util.Map;

/** Long runs of calls, each answered by Stavehouse and by Plain; the same runs each time. */
public final class RandomRunsTest {
    private static final int CALLS = 512;
    private static final int RUNS = 800;

    /** What a run is about: music with many rests, copies, much music, or anything. */
    private static final int RESTS = 1;
    private static final int LIBRARY = 2;
    private static final int ANYTHING = 3;

    private static final int BOOKS_FROM = 18;
    private static final int COPIES_FROM = 28;

    /** The arguments of each call: what kind of number each is. */
    private static final String[] CALL_KINDS = {
        "bar length", "note instrument bar noteLength pitch", "mend instrument bar note pitch",
        "empty instrument bar", "setPaper paper pageLines",
        "copy instrument", "lend copy desk", "giveBack copy", "paste copy", "mark copy bar sign",
        "bow copy bar note how", "play",
        "bars", "notes instrument bar", "noteAt instrument bar note", "version instrument bar",
        "time time", "timeByBars time",
        "items book", "itemOf book bar", "cue instrument bar", "width book item", "lines book",
        "lineOf book bar", "cost book", "costByAll book", "turns book", "place book bar at",
        "copies", "deskOf copy", "has copy bar", "owed copy", "markOf desk instrument bar",
        "oldMarks desk", "clashes instrument", "concerts"
    };

    private final Check check = new Check();
    private final Map<String, Method> mine = methods(Stavehouse.class);
    private final Map<String, Method> plain = methods(Plain.class);
    private long seed;
    private final Map<String, Integer> answered = new HashMap<>();
    private int cues;
    private int manyLines;
    private int dearTurns;
    private int clashing;
    private int played;

    private static Map<String, Method> methods(Class<?> of) {
        Map<String, Method> found = new HashMap<>();
        for (Method method : of.getDeclaredMethods()) {
            if (java.lang.reflect.Modifier.isPublic(method.getModifiers())) {
                found.put(method.getName(), method);
            }
        }
        return found;
    }

    /** A row of numbers of our own, so that each run can be run again. */
    private int below(int bound) {
        seed = seed * 6364136223846793005L + 1442695040888963407L;
        return (int) ((seed >>> 33) % bound);
    }

    private int oneOf(int... values) {
        return values[below(values.length)];
    }

    /** A number just outside of its range, or far. */
    private int outside(int least, int most) {
        return oneOf(least - 1, most + 1, least - 1, most + 1, Integer.MIN_VALUE, Integer.MAX_VALUE);
    }

    private int within(int least, int most) {
        if (least > most || below(40) == 0) {
            return outside(least, most);
        }
        return least + below(most - least + 1);
    }

    private int choose(String kind, Plain score, int profile) {
        int bars = score.bars();
        switch (kind) {
            case "length": return profile == RESTS ? oneOf(8, 8, 8, 4, within(1, 32)) : within(1, 32);
            case "instrument": return profile == LIBRARY ? oneOf(0, 0, 1, within(0, 4)) : within(0, 4);
            case "bar": return profile == RESTS ? barWithMusic(bars) : within(0, bars - 1);
            case "time": return within(0, bars);
            case "noteLength": return oneOf(1, 1, 2, 2, 4, within(1, 8), within(1, 32));
            case "pitch": return oneOf(0, within(0, 60), within(1, 60));
            case "note": return oneOf(0, 0, 0, 1, 1, 2, within(0, 7));
            case "paper": return oneOf(80, 80, 500, within(80, 140), within(80, 300), within(80, 500));
            case "pageLines": return oneOf(1, 1, 2, 3, within(1, 6));
            case "copy": return within(0, score.copies() - 1);
            case "desk": return within(0, 5);
            case "sign": return within(0, 9);
            case "how": return oneOf(1, 2, within(0, 2));
            case "book": return within(0, 5);
            case "item": return oneOf(within(0, bars - 1), within(0, Math.max(0, bars / 2)));
            case "at": return oneOf(0, 0, 1, 2, 4, 8, within(0, 31));
            default: throw new IllegalStateException(kind);
        }
    }

    /** Few bars of some instruments have music, so that the others are long rests. */
    private int barWithMusic(int bars) {
        return below(3) == 0 ? within(0, bars - 1) : oneOf(0, bars - 1, bars / 2, bars / 2 + 1);
    }

    private static String outcome(Object on, Method method, Object[] arguments) {
        try {
            return method.invoke(on, arguments).toString();
        } catch (InvocationTargetException e) {
            return e.getCause().getClass().getSimpleName();
        } catch (IllegalAccessException e) {
            return e.toString();
        }
    }

    /** Music first, so that what is asked later has something to answer. */
    private String nextCall(int call, int profile) {
        if (call < (profile == LIBRARY ? 4 : 12) && below(10) != 0) {
            return "bar";
        }
        if (profile == LIBRARY) {
            return nextOfLibrary(call);
        }
        if (profile == ANYTHING && call > 40) {
            return nameOf(below(CALL_KINDS.length));
        }
        if (call < 120 && below(8) != 0) {
            return "note";
        }
        return below(8) == 0 ? nameOf(below(6)) : nameOf(BOOKS_FROM + below(10));
    }

    private String nextOfLibrary(int call) {
        if (call < 60) {
            return below(4) == 0 ? "copy" : "note";
        }
        if (call < 90) {
            return "lend";
        }
        switch (below(12)) {
            case 0: return nameOf(below(12));
            case 1: return below(3) == 0 ? "mend" : "lend";
            case 2: case 3: return "paste";
            case 4: return "play";
            case 5: return below(3) == 0 ? "giveBack" : "mark";
            case 6: case 7: case 8: return "bow";
            case 9: return "clashes";
            default: return nameOf(COPIES_FROM + below(8));
        }
    }

    private static String[] kindsOf(String name) {
        for (String kinds : CALL_KINDS) {
            if (kinds.split(" ")[0].equals(name)) {
                return kinds.split(" ");
            }
        }
        throw new IllegalStateException(name);
    }

    private static String nameOf(int call) {
        return CALL_KINDS[call].split(" ")[0];
    }

    private void run(int number) {
        int profile = number % 4;
        Stavehouse x = new Stavehouse();
        Plain y = new Plain();
        List<String> told = new ArrayList<>();
        for (int call = 0; call < CALLS; call++) {
            String[] words = kindsOf(nextCall(call, profile));
            Object[] arguments = new Object[words.length - 1];
            StringBuilder text = new StringBuilder(words[0]).append('(');
            for (int i = 1; i < words.length; i++) {
                int value = choose(words[i], y, profile);
                arguments[i - 1] = value;
                text.append(i == 1 ? "" : ", ").append(value);
            }
            text.append(')');
            String want = outcome(y, plain.get(words[0]), arguments);
            String got = outcome(x, mine.get(words[0]), arguments);
            told.add(text + " = " + want);
            check.same("run " + number + ", call " + call + ": " + text, got, want);
            if (!got.equals(want)) {
                System.out.println("the run so far: " + told);
                return;
            }
            count(words[0], want);
        }
    }

    private void count(String call, String answer) {
        boolean thrown = answer.endsWith("Exception");
        answered.merge(call + (thrown ? " " + answer : ""), 1, Integer::sum);
        if (thrown) {
            return;
        }
        int number = Integer.parseInt(answer);
        cues += call.equals("cue") && number >= 0 ? 1 : 0;
        manyLines += call.equals("lines") && number > 3 ? 1 : 0;
        dearTurns += call.equals("turns") && number > 0 ? 1 : 0;
        clashing += call.equals("clashes") && number > 0 ? 1 : 0;
        played += call.equals("play") ? 1 : 0;
    }

    /** Runs that never come to what is hard would prove nothing. */
    private void needReached(String what, int times) {
        check.same("the runs come often enough to " + what, times >= 50 ? "yes" : "no: " + times, "yes");
    }

    public static void main(String[] args) {
        RandomRunsTest test = new RandomRunsTest();
        for (int number = 0; number < RUNS; number++) {
            test.seed = 1_000_003L * (number + 7) * (number + 7);
            test.run(number);
        }
        for (String kinds : CALL_KINDS) {
            test.needReached(kinds, test.answered.getOrDefault(kinds.split(" ")[0], 0));
        }
        test.needReached("cues", test.cues);
        test.needReached("books of many lines", test.manyLines);
        test.needReached("turns that cost", test.dearTurns);
        test.needReached("clashes", test.clashing);
        test.needReached("concerts", test.played);
        if (args.length > 0) {
            System.out.println(test.answered);
            System.out.println(test.cues + " " + test.manyLines + " " + test.dearTurns + " " + test.clashing + " " + test.played);
        }
        test.check.end("RandomRunsTest");
    }
}
