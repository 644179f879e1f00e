import java.lang.reflect.InvocationTargetException;
import java.lang.reflect.Method;
import java.lang.reflect.Modifier;
import java.util.ArrayList;
import java.util.HashMap;
import java.util.List;
import java.util.Map;
import java.util.Set;

/**
 * A run of calls on a new object, told as texts such as "note 0 0 4 10", each with what is due.
 * Plain must answer the same, and behind each call that throws all must be as it was.
 */
final class Run {
    static final int MOST_CALLS = 512;

    private static final Set<String> TELLING = Set.of(
            "bar", "note", "mend", "empty", "setPaper",
            "copy", "lend", "giveBack", "paste", "mark", "bow", "play");
    private static final Map<String, Method> MINE = methods(Stavehouse.class);
    private static final Map<String, Method> PLAIN = methods(Plain.class);

    private final Check check;
    private final String about;
    private final Stavehouse house = new Stavehouse();
    private final Plain plain = new Plain();
    private final List<String> told = new ArrayList<>();
    private int calls;

    /** What an object that was told the same answers now; null when it must be asked anew. */
    private List<String> answersNow;

    Run(Check check, String about) {
        this.check = check;
        this.about = about;
    }

    private static Map<String, Method> methods(Class<?> of) {
        Map<String, Method> found = new HashMap<>();
        for (Method method : of.getDeclaredMethods()) {
            if (Modifier.isPublic(method.getModifiers())) {
                found.put(method.getName(), method);
            }
        }
        return found;
    }

    private static int number(String word) {
        switch (word) {
            case "MIN": return Integer.MIN_VALUE;
            case "MAX": return Integer.MAX_VALUE;
            default: return Integer.parseInt(word);
        }
    }

    private static String answer(Object on, Map<String, Method> methods, String call) {
        String[] words = call.split(" ");
        Object[] arguments = new Object[words.length - 1];
        for (int i = 1; i < words.length; i++) {
            arguments[i - 1] = number(words[i]);
        }
        try {
            return methods.get(words[0]).invoke(on, arguments).toString();
        } catch (InvocationTargetException e) {
            return e.getCause().getClass().getSimpleName();
        } catch (IllegalAccessException e) {
            return e.toString();
        }
    }

    private static boolean thrown(String answer) {
        return answer.endsWith("Exception") || answer.endsWith("Error");
    }

    /** Behind the 512th call nothing is promised, so a test that goes on there proves nothing. */
    private String call(String call) {
        calls++;
        check.same(about + ": a run has at most 512 calls", calls <= MOST_CALLS ? "yes" : "no", "yes");
        String got = answer(house, MINE, call);
        check.same(about + ": " + call + ", and Plain", got, answer(plain, PLAIN, call));
        if (TELLING.contains(call.split(" ")[0]) && !thrown(got)) {
            told.add(call);
            answersNow = null;
        }
        return got;
    }

    /** Calls that must answer, whatever they answer. */
    Run told(String... all) {
        for (String call : all) {
            String got = call(call);
            check.same(about + ": " + call, thrown(got) ? got : "answered", "answered");
        }
        return this;
    }

    Run times(int count, String call) {
        for (int i = 0; i < count; i++) {
            told(call);
        }
        return this;
    }

    Run due(int want, String call) {
        check.same(about + ": " + call, call(call), Integer.toString(want));
        return this;
    }

    /** The same call with 0, 1, 2.. in the place of the sign #, and what is due for each. */
    Run each(String call, int... wants) {
        for (int i = 0; i < wants.length; i++) {
            due(wants[i], call.replace("#", Integer.toString(i)));
        }
        return this;
    }

    Run noSuch(String... all) {
        return throwing("IndexOutOfBoundsException", all);
    }

    Run outOfRange(String... all) {
        return throwing("IllegalArgumentException", all);
    }

    Run refused(String... all) {
        return throwing("IllegalStateException", all);
    }

    private Run throwing(String exception, String... all) {
        for (String call : all) {
            check.same(about + ": " + call, call(call), exception);
            unchangedBehind(call);
        }
        return this;
    }

    /** Two objects are told the same, one of them this call besides: they must answer the same. */
    Run unchangedBehind(String call) {
        List<String> asked = allThatCanBeAsked();
        if (answersNow == null) {
            answersNow = answers(asked, null);
        }
        List<String> behind = answers(asked, call);
        for (int i = 0; i < asked.size(); i++) {
            if (!answersNow.get(i).equals(behind.get(i))) {
                check.same(about + ": " + asked.get(i) + " behind " + call, behind.get(i), answersNow.get(i));
            }
        }
        check.same(about + ": all that can be asked", Integer.toString(behind.size()), Integer.toString(asked.size()));
        return this;
    }

    /** One object may not be asked all, so fresh ones are told the same again. */
    private List<String> answers(List<String> asked, String last) {
        List<String> answers = new ArrayList<>();
        int most = MOST_CALLS - told.size() - 1;
        check.same(about + ": calls are left to ask", most > 0 ? "yes" : "no", "yes");
        while (most > 0 && answers.size() < asked.size()) {
            Stavehouse fresh = new Stavehouse();
            for (String call : told) {
                answer(fresh, MINE, call);
            }
            if (last != null) {
                answer(fresh, MINE, last);
            }
            for (int left = most; left > 0 && answers.size() < asked.size(); left--) {
                answers.add(answer(fresh, MINE, asked.get(answers.size())));
            }
        }
        return answers;
    }

    private List<String> allThatCanBeAsked() {
        List<String> asked = new ArrayList<>(List.of("bars", "copies", "concerts"));
        for (int bar = 0; bar <= plain.bars(); bar++) {
            asked.add("time " + bar);
            asked.add("timeByBars " + bar);
        }
        for (int book = 0; book <= 5; book++) {
            askBook(asked, book);
        }
        for (int instrument = 0; instrument <= 4; instrument++) {
            askInstrument(asked, instrument);
        }
        for (int copy = 0; copy < plain.copies(); copy++) {
            askCopy(asked, copy);
        }
        for (int desk = 0; desk <= 5; desk++) {
            askDesk(asked, desk);
        }
        askByTelling(asked);
        return asked;
    }

    private void askBook(List<String> asked, int book) {
        for (String of : List.of("items", "lines", "cost", "costByAll", "turns")) {
            asked.add(of + " " + book);
        }
        for (int bar = 0; bar < plain.bars(); bar++) {
            asked.add("lineOf " + book + " " + bar);
            asked.add("itemOf " + book + " " + bar);
            asked.add("place " + book + " " + bar + " 0");
        }
        int items = plain.items(book);
        for (int item = 0; item < items; item++) {
            asked.add("width " + book + " " + item);
        }
    }

    private void askInstrument(List<String> asked, int instrument) {
        asked.add("clashes " + instrument);
        for (int bar = 0; bar < plain.bars(); bar++) {
            String there = " " + instrument + " " + bar;
            asked.addAll(List.of("notes" + there, "version" + there, "cue" + there));
            for (int note = 0; note < plain.notes(instrument, bar); note++) {
                asked.add("noteAt" + there + " " + note);
            }
        }
    }

    private void askCopy(List<String> asked, int copy) {
        asked.add("deskOf " + copy);
        asked.add("owed " + copy);
        for (int bar = 0; bar < plain.bars(); bar++) {
            asked.add("has " + copy + " " + bar);
        }
    }

    private void askDesk(List<String> asked, int desk) {
        asked.add("oldMarks " + desk);
        for (int instrument = 0; instrument <= 4; instrument++) {
            for (int bar = 0; bar < plain.bars(); bar++) {
                asked.add("markOf " + desk + " " + instrument + " " + bar);
            }
        }
    }

    /** Bowings, and what is to come next, show only when something is told. */
    private void askByTelling(List<String> asked) {
        for (int copy = 0; copy < plain.copies(); copy++) {
            asked.add("paste " + copy);
            if (plain.deskOf(copy) >= 0) {
                askBowings(asked, copy);
            }
        }
        asked.addAll(List.of("play", "copy 0", "bar 1", "setPaper 80 1"));
        for (int copy = 0; copy < plain.copies(); copy++) {
            asked.add("lend " + copy + " " + copy % 6);
        }
    }

    private void askBowings(List<String> asked, int copy) {
        for (int bar = 0; bar < plain.bars(); bar++) {
            for (int note = 0; note < 8; note++) {
                asked.add("bow " + copy + " " + bar + " " + note + " 0");
            }
        }
    }
}
