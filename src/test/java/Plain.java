import java.util.ArrayList;
import java.util.HashMap;
import java.util.List;
import java.util.Map;
import java.util.TreeMap;

/**
 * The document said a second time, with other means and without a thought for speed: sounds are
 * looked up sixteenth by sixteenth, and lines are broken by writing down every way there is.
 */
public final class Plain {
    private record Note(int length, int pitch) {}

    private record Told(int value, int version) {}

    private record Spring(int at, int width, int least) {}

    private record Item(int firstBar, int bars, List<Spring> springs) {
        int width() {
            return 8 + springs.stream().mapToInt(Spring::width).sum();
        }

        int least() {
            return 8 + springs.stream().mapToInt(Spring::least).sum();
        }
    }

    private record Way(List<Integer> row, int badness, int turns) {
        int cost() {
            return badness + turns;
        }

        boolean betterThan(Way other) {
            if (cost() != other.cost()) {
                return cost() < other.cost();
            }
            if (row.size() != other.row.size()) {
                return row.size() < other.row.size();
            }
            for (int i = 0; i < row.size(); i++) {
                if (!row.get(i).equals(other.row.get(i))) {
                    return row.get(i) < other.row.get(i);
                }
            }
            return false;
        }
    }

    private static final class Copy {
        int instrument;
        int desk = -1;
        Map<Integer, Integer> versions = new HashMap<>();
    }

    private final List<Integer> lengths = new ArrayList<>();
    private final List<List<List<Note>>> notes = new ArrayList<>();
    private final int[][] versions = new int[5][12];
    private int paper = 200;
    private int pageLines = 3;
    private final List<Copy> copies = new ArrayList<>();
    private final Map<String, Told> marks = new HashMap<>();
    private final Map<String, Told> bowings = new HashMap<>();
    private int concerts;

    public Plain() {
        for (int i = 0; i < 5; i++) {
            notes.add(new ArrayList<>());
        }
    }

    private static void index(boolean is) {
        if (!is) {
            throw new IndexOutOfBoundsException();
        }
    }

    private static void argument(boolean is) {
        if (!is) {
            throw new IllegalArgumentException();
        }
    }

    private static void state(boolean is) {
        if (!is) {
            throw new IllegalStateException();
        }
    }

    private boolean isInstrument(int i) {
        return 0 <= i && i <= 4;
    }

    private boolean isBar(int b) {
        return 0 <= b && b < lengths.size();
    }

    private boolean isCopy(int c) {
        return 0 <= c && c < copies.size();
    }

    private boolean isDesk(int d) {
        return 0 <= d && d <= 5;
    }

    private boolean isBook(int b) {
        return 0 <= b && b <= 5;
    }

    private List<Note> at(int instrument, int bar) {
        return notes.get(instrument).get(bar);
    }

    // ---- the score

    public int bar(int length) {
        argument(1 <= length && length <= 32);
        state(lengths.size() < 12);
        lengths.add(length);
        for (List<List<Note>> of : notes) {
            of.add(new ArrayList<>());
        }
        return lengths.size() - 1;
    }

    public int note(int instrument, int bar, int length, int pitch) {
        index(isInstrument(instrument) && isBar(bar));
        argument(1 <= length && length <= 32 && 0 <= pitch && pitch <= 60);
        List<Note> there = at(instrument, bar);
        state(there.size() < 8);
        state(there.stream().mapToInt(Note::length).sum() + length <= lengths.get(bar));
        there.add(new Note(length, pitch));
        versions[instrument][bar]++;
        return there.size();
    }

    public int mend(int instrument, int bar, int note, int pitch) {
        index(isInstrument(instrument) && isBar(bar) && 0 <= note && note < at(instrument, bar).size());
        argument(0 <= pitch && pitch <= 60);
        Note had = at(instrument, bar).get(note);
        if (had.pitch() != pitch) {
            at(instrument, bar).set(note, new Note(had.length(), pitch));
            versions[instrument][bar]++;
        }
        return had.pitch();
    }

    public int empty(int instrument, int bar) {
        index(isInstrument(instrument) && isBar(bar));
        int were = at(instrument, bar).size();
        if (were != 0) {
            at(instrument, bar).clear();
            versions[instrument][bar]++;
        }
        return were;
    }

    public int setPaper(int width, int lines) {
        argument(80 <= width && width <= 500 && 1 <= lines && lines <= 6);
        int had = paper;
        paper = width;
        pageLines = lines;
        return had;
    }

    // ---- copies

    public int copy(int instrument) {
        index(isInstrument(instrument));
        state(copies.size() < 16);
        Copy made = new Copy();
        made.instrument = instrument;
        copies.add(made);
        return copies.size() - 1;
    }

    public int lend(int copy, int desk) {
        index(isCopy(copy) && isDesk(desk));
        Copy lent = copies.get(copy);
        state(lent.desk == -1);
        state(copies.stream().noneMatch(c -> c.desk == desk && c.instrument == lent.instrument));
        lent.desk = desk;
        renew(lent);
        return out();
    }

    private void renew(Copy copy) {
        copy.versions.clear();
        for (int bar = 0; bar < lengths.size(); bar++) {
            copy.versions.put(bar, versions[copy.instrument][bar]);
        }
    }

    private int out() {
        return (int) copies.stream().filter(c -> c.desk != -1).count();
    }

    private boolean owes(Copy copy, int bar) {
        return copy.desk != -1
                && copy.versions.getOrDefault(bar, -1) != versions[copy.instrument][bar];
    }

    public int giveBack(int copy) {
        index(isCopy(copy));
        state(copies.get(copy).desk != -1);
        int owed = owed(copy);
        copies.get(copy).desk = -1;
        return owed;
    }

    public int paste(int copy) {
        index(isCopy(copy));
        state(copies.get(copy).desk != -1);
        int owed = owed(copy);
        renew(copies.get(copy));
        return owed;
    }

    public int mark(int copy, int bar, int sign) {
        index(isCopy(copy) && isBar(bar));
        argument(0 <= sign && sign <= 9);
        Copy of = copies.get(copy);
        state(of.desk != -1 && of.versions.containsKey(bar));
        String where = of.desk + " " + of.instrument + " " + bar;
        Told had = marks.remove(where);
        if (sign != 0) {
            marks.put(where, new Told(sign, of.versions.get(bar)));
        }
        return had == null ? 0 : had.value();
    }

    public int bow(int copy, int bar, int note, int how) {
        index(isCopy(copy) && isBar(bar));
        Copy of = copies.get(copy);
        index(0 <= note && note < at(of.instrument, bar).size());
        argument(0 <= how && how <= 2);
        state(of.desk != -1 && !owes(of, bar));
        int had = counts(of.desk, of.instrument, bar, note);
        String where = of.desk + " " + of.instrument + " " + bar + " " + note;
        bowings.put(where, new Told(how, versions[of.instrument][bar]));
        return had;
    }

    private int counts(int desk, int instrument, int bar, int note) {
        Told told = bowings.get(desk + " " + instrument + " " + bar + " " + note);
        return told == null || told.version() != versions[instrument][bar] ? 0 : told.value();
    }

    public int play() {
        state(out() != 0);
        for (int c = 0; c < copies.size(); c++) {
            state(owed(c) == 0);
        }
        concerts++;
        return out();
    }

    // ---- what is asked: the score

    public int bars() {
        return lengths.size();
    }

    public int notes(int instrument, int bar) {
        index(isInstrument(instrument) && isBar(bar));
        return at(instrument, bar).size();
    }

    public int noteAt(int instrument, int bar, int note) {
        index(isInstrument(instrument) && isBar(bar) && 0 <= note && note < at(instrument, bar).size());
        Note found = at(instrument, bar).get(note);
        return 100 * found.length() + found.pitch();
    }

    public int version(int instrument, int bar) {
        index(isInstrument(instrument) && isBar(bar));
        return versions[instrument][bar];
    }

    public int time(int bar) {
        index(0 <= bar && bar <= lengths.size());
        return lengths.subList(0, bar).stream().mapToInt(Integer::intValue).sum();
    }

    public int timeByBars(int bar) {
        return time(bar);
    }

    // ---- what is asked: books

    private boolean silent(int instrument, int bar) {
        return at(instrument, bar).stream().allMatch(n -> n.pitch() == 0);
    }

    /** The item that begins with a bar; rests are looked at whole, from their beginning on. */
    private Item itemFrom(int book, int bar) {
        if (book == 5) {
            return new Item(bar, 1, springs(bar, List.of(0, 1, 2, 3, 4)));
        }
        if (!silent(book, bar)) {
            return new Item(bar, 1, springs(bar, List.of(book)));
        }
        int begin = bar;
        while (begin > 0 && silent(book, begin - 1)) {
            begin--;
        }
        int end = bar;
        while (end < lengths.size() && silent(book, end)) {
            end++;
        }
        int player = -1;
        if (end - begin >= 3 && end < lengths.size()) {
            player = loudest(book, end - 1);
        }
        if (player == -1) {
            return new Item(bar, end - bar, List.of(new Spring(0, 24, 16)));
        }
        return bar == end - 1
                ? new Item(bar, 1, springs(bar, List.of(player)))
                : new Item(bar, end - 1 - bar, List.of(new Spring(0, 24, 16)));
    }

    private int loudest(int part, int bar) {
        int found = -1;
        for (int other = 4; other >= 0; other--) {
            if (other != part && !silent(other, bar)
                    && (found == -1 || at(other, bar).size() >= at(found, bar).size())) {
                found = other;
            }
        }
        return found;
    }

    private List<Spring> springs(int bar, List<Integer> by) {
        TreeMap<Integer, Integer> places = new TreeMap<>();
        places.put(0, 0);
        for (int instrument : by) {
            int at = 0;
            for (Note note : at(instrument, bar)) {
                places.merge(at, note.pitch() > 0 ? 1 : 0, Integer::sum);
                at += note.length();
            }
            if (at != lengths.get(bar)) {
                places.merge(at, 0, Integer::sum);
            }
        }
        List<Spring> springs = new ArrayList<>();
        for (Map.Entry<Integer, Integer> place : places.entrySet()) {
            Integer next = places.higherKey(place.getKey());
            int length = (next == null ? lengths.get(bar) : next) - place.getKey();
            int halves = length >= 32 ? 5 : length >= 16 ? 4 : length >= 8 ? 3 : length >= 4 ? 2 : length >= 2 ? 1 : 0;
            int least = 4 + place.getValue();
            springs.add(new Spring(place.getKey(), Math.max(6 + 3 * halves, least), least));
        }
        return springs;
    }

    private List<Item> book(int book) {
        index(isBook(book));
        List<Item> items = new ArrayList<>();
        for (int bar = 0; bar < lengths.size(); bar += items.get(items.size() - 1).bars()) {
            items.add(itemFrom(book, bar));
        }
        return items;
    }

    public int items(int book) {
        return book(book).size();
    }

    public int itemOf(int book, int bar) {
        List<Item> items = book(book);
        index(isBar(bar));
        int item = 0;
        while (bar >= items.get(item).firstBar() + items.get(item).bars()) {
            item++;
        }
        return item;
    }

    public int cue(int instrument, int bar) {
        index(isInstrument(instrument) && isBar(bar));
        int begin = bar;
        while (begin >= 0 && silent(instrument, begin)) {
            begin--;
        }
        boolean last = silent(instrument, bar) && bar + 1 < lengths.size() && !silent(instrument, bar + 1);
        return last && bar - begin >= 3 ? loudest(instrument, bar) : -1;
    }

    public int width(int book, int item) {
        List<Item> items = book(book);
        index(0 <= item && item < items.size());
        return items.get(item).width();
    }

    /** All sixteenths of the score: true where a note with a pitch above 0 of an instrument sounds. */
    private List<Boolean> sounds(int instrument) {
        List<Boolean> sounds = new ArrayList<>();
        for (int bar = 0; bar < lengths.size(); bar++) {
            for (Note note : at(instrument, bar)) {
                for (int i = 0; i < note.length(); i++) {
                    sounds.add(note.pitch() > 0);
                }
            }
            while (sounds.size() < time(bar + 1)) {
                sounds.add(false);
            }
        }
        return sounds;
    }

    private int turnCost(int book, int bar) {
        if (book == 5) {
            return 0;
        }
        List<Boolean> sounds = sounds(book);
        int turn = time(bar);
        int begin = turn;
        while (begin > 0 && !sounds.get(begin - 1)) {
            begin--;
        }
        int end = turn;
        while (end < sounds.size() && !sounds.get(end)) {
            end++;
        }
        return end - begin >= 16 ? 0 : 100 * (16 - (end - begin));
    }

    private Way best(int book) {
        List<Item> items = book(book);
        int n = items.size();
        if (n == 0) {
            return new Way(List.of(), 0, 0);
        }
        int[] widths = items.stream().mapToInt(Item::width).toArray();
        int[] leasts = items.stream().mapToInt(Item::least).toArray();
        int[] turnCosts = items.stream().mapToInt(item -> turnCost(book, item.firstBar())).toArray();
        Way best = null;
        for (int cuts = 0; cuts < 1 << n - 1; cuts++) {
            Way way = way(widths, leasts, turnCosts, cuts);
            if (way != null && (best == null || way.betterThan(best))) {
                best = way;
            }
        }
        return best;
    }

    /** A line ends behind item i, if bit i of the cuts is set. */
    private Way way(int[] widths, int[] leasts, int[] turnCosts, int cuts) {
        List<Integer> row = new ArrayList<>();
        int badness = 0;
        int turns = 0;
        int width = 0;
        int least = 0;
        int count = 0;
        for (int i = 0; i < widths.length; i++) {
            width += widths[i];
            least += leasts[i];
            count++;
            boolean last = i == widths.length - 1;
            if (!last && (cuts >> i & 1) == 0) {
                continue;
            }
            if (count > 1 && least > paper) {
                return null;
            }
            int off = width > paper ? 2 * (width - paper) : last ? 0 : paper - width;
            badness += off * off;
            row.add(count);
            if (!last && row.size() % pageLines == 0) {
                turns += turnCosts[i + 1];
            }
            width = 0;
            least = 0;
            count = 0;
        }
        return new Way(row, badness, turns);
    }

    public int lines(int book) {
        return best(book).row().size();
    }

    public int lineOf(int book, int bar) {
        int item = itemOf(book, bar);
        List<Integer> row = best(book).row();
        int line = 0;
        int ahead = row.get(0);
        while (item >= ahead) {
            line++;
            ahead += row.get(line);
        }
        return line;
    }

    public int cost(int book) {
        return best(book).cost();
    }

    public int costByAll(int book) {
        return cost(book);
    }

    public int turns(int book) {
        return best(book).turns();
    }

    public int place(int book, int bar, int at) {
        int itemNumber = itemOf(book, bar);
        List<Item> items = book(book);
        Item own = items.get(itemNumber);
        index(own.firstBar() == bar && own.springs().stream().anyMatch(s -> s.at() == at));
        List<Integer> row = best(book).row();
        int line = lineOf(book, bar);
        int first = row.subList(0, line).stream().mapToInt(Integer::intValue).sum();
        List<Item> inLine = items.subList(first, first + row.get(line));
        int width = inLine.stream().mapToInt(Item::width).sum();
        long widths = 0;
        long leasts = 0;
        long ahead = 0;
        long leastAhead = 0;
        for (Item item : inLine) {
            for (Spring spring : item.springs()) {
                if (item.firstBar() < bar || item.firstBar() == bar && spring.at() < at) {
                    ahead += spring.width();
                    leastAhead += spring.least();
                }
                widths += spring.width();
                leasts += spring.least();
            }
        }
        long place = 8L * (itemNumber - first) + 4 + ahead;
        if (width > paper) {
            long shrunk = Math.min(width - paper, widths - leasts);
            return (int) (widths == leasts ? place : place - shrunk * (ahead - leastAhead) / (widths - leasts));
        }
        return (int) (line == row.size() - 1 ? place : place + (paper - width) * ahead / widths);
    }

    // ---- what is asked: copies

    public int copies() {
        return copies.size();
    }

    public int deskOf(int copy) {
        index(isCopy(copy));
        return copies.get(copy).desk;
    }

    public int has(int copy, int bar) {
        index(isCopy(copy) && isBar(bar));
        Copy of = copies.get(copy);
        return of.desk == -1 ? versions[of.instrument][bar] : of.versions.getOrDefault(bar, -1);
    }

    public int owed(int copy) {
        index(isCopy(copy));
        int owed = 0;
        for (int bar = 0; bar < lengths.size(); bar++) {
            owed += owes(copies.get(copy), bar) ? 1 : 0;
        }
        return owed;
    }

    public int markOf(int desk, int instrument, int bar) {
        index(isDesk(desk) && isInstrument(instrument) && isBar(bar));
        Told told = marks.get(desk + " " + instrument + " " + bar);
        return told == null ? 0 : told.value();
    }

    public int oldMarks(int desk) {
        index(isDesk(desk));
        int old = 0;
        for (int instrument = 0; instrument < 5; instrument++) {
            for (int bar = 0; bar < lengths.size(); bar++) {
                Told told = marks.get(desk + " " + instrument + " " + bar);
                old += told != null && told.version() != versions[instrument][bar] ? 1 : 0;
            }
        }
        return old;
    }

    public int clashes(int instrument) {
        index(isInstrument(instrument));
        int clashes = 0;
        for (int bar = 0; bar < lengths.size(); bar++) {
            for (int note = 0; note < at(instrument, bar).size(); note++) {
                for (int desk = 0; desk < 6; desk += 2) {
                    int one = counts(desk, instrument, bar, note);
                    int other = counts(desk + 1, instrument, bar, note);
                    clashes += one + other == 3 && one * other == 2 ? 1 : 0;
                }
            }
        }
        return clashes;
    }

    public int concerts() {
        return concerts;
    }
}
