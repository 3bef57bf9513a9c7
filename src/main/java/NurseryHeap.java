import java.util.Arrays;
import java.util.NoSuchElementException;

/**
 * A heap of objects in two ages. Words in capitals (MINOR, REMEMBERED, ENDS ..) are those of the document.
 *
 * Objects are held in slots that are kept in the order of their numbers, without gaps, so that "numbers rising" is
 * "slots rising" everywhere. All links inside are slots (NONE: none); only LOST holds numbers, as its objects may be
 * gone before they are asked for.
 */
public final class NurseryHeap {
    public static final int NONE = -1;
    public static final int HIDDEN = -1000000;

    private static final int ROOTS = 8;
    private static final int NO_ROOT = 8;
    private static final int MOST_FIELDS = 4;
    private static final int MOST_DATA = 999;
    private static final int HEAD_CELLS = 3;

    // The largest spaces hold 21 + 10 + 42 objects of three cells, and fewer than 80 fields lie in OLD.
    private static final int MOST_OBJECTS = 80;
    private static final int MOST_REMEMBERED = 80;
    private static final int MOST_OLD_CELLS = 128;

    private static final int MOST_LOST = 40;
    private static final int MOST_LOGGED = 60;
    private static final int MOST_UNDONE = 40;
    private static final int MOST_SCRIPTS = 4;
    private static final int MOST_STEPS = 16;
    private static final int STEP_WIDTH = 5;
    private static final int MOST_BYTES = 240;
    private static final int MOST_YEARS = 40;
    private static final int MOST_MINORS_AHEAD = 9;

    private static final int EDEN = 0;
    private static final int SURVIVOR = 1;
    private static final int OLD = 2;
    private static final int SPACES = 3;
    private static final int AGE = 3;
    private static final int RULES = 4;

    private static final int PLAIN = 0;
    private static final int WEAK = 1;
    private static final int LASTING = 2;

    private static final int MADE = 0;
    private static final int LINKED = 1;
    private static final int LOADED = 2;
    private static final int EMPTIED = 3;
    private static final int MINOR = 4;
    private static final int MAJOR = 5;
    private static final int TOLD = 6;
    private static final int ASKED = 7;

    // A refused ACT answers one of these; STATUS counts it at the place (-1 - answer).
    private static final int NO_SUCH = -1;
    private static final int OUT_OF_BOUNDS = -2;
    private static final int IS_SO = -3;
    private static final int NO_ROOM = -4;
    private static final int REFUSALS = 4;

    // Counts of all time, in the order in which most(5) .. most(12) tell them.
    private static final int FIRST_TALLY = 5;
    private static final int EVER_MADE = 0;
    private static final int EVER_MINORS = 1;
    private static final int EVER_MAJORS = 2;
    private static final int EVER_MOVED = 3;
    private static final int TALLIES = 8;

    // Counts of one collection, in the order in which would() tells them.
    private static final int ONCE_MOVED = 0;
    private static final int ONCE_TO_OLD = 1;
    private static final int ONCE_GONE = 2;
    private static final int ONCE_EMPTIED = 3;
    private static final int ONCE_ENDED = 4;
    private static final int ONCE_COUNTS = 5;

    private final Tape tape = new Tape();
    private final Reader reader = new Reader(tape);
    private final int[][] scripts = new int[MOST_SCRIPTS][MOST_STEPS * STEP_WIDTH];
    private final int[] scriptLengths = new int[MOST_SCRIPTS];
    private int scriptCount;

    private final int[] rules = new int[RULES];
    private boolean hasHeap;
    private boolean hasImage;
    private final State now = new State();
    private final State kept = new State();
    private final State trial = new State();
    private final Past past = new Past();
    private final Graph graph = new Graph();
    private final Collector collector = new Collector(rules, graph);
    private final Acts acts = new Acts(rules, collector);
    private final int[] refused = new int[REFUSALS];

    public NurseryHeap() {
    }

    // ---- texts ----

    public int feed(int a, int b, int c, int d, int e) {
        int more = Tape.bytesIn(a) + Tape.bytesIn(b) + Tape.bytesIn(c) + Tape.bytesIn(d) + Tape.bytesIn(e);
        if (tape.length + more > MOST_BYTES) {
            return NONE;
        }
        tape.addBytes(a);
        tape.addBytes(b);
        tape.addBytes(c);
        tape.addBytes(d);
        tape.addBytes(e);
        return tape.length;
    }

    public boolean end(int n) {
        if (n < 0 || n > tape.length) {
            return false;
        }
        tape.length = n;
        return true;
    }

    public int fault(int sort) {
        if (sort == 0) {
            return reader.readHeap();
        }
        return sort == 1 ? reader.readScript() : -2;
    }

    public int text(int sort) {
        if (sort == 0) {
            return takeHeap();
        }
        return sort == 1 ? takeScript() : NONE;
    }

    private int takeHeap() {
        if (reader.readHeap() != NONE) {
            return NONE;
        }
        System.arraycopy(reader.rules, 0, rules, 0, RULES);
        tape.length = 0;
        hasHeap = true;
        hasImage = false;
        now.clear();
        past.length = 0;
        return rules[EDEN] + 2 * rules[SURVIVOR] + rules[OLD];
    }

    private int takeScript() {
        if (scriptCount >= MOST_SCRIPTS || reader.readScript() != NONE) {
            return NONE;
        }
        System.arraycopy(reader.steps, 0, scripts[scriptCount], 0, MOST_STEPS * STEP_WIDTH);
        scriptLengths[scriptCount] = reader.stepCount;
        tape.length = 0;
        scriptCount++;
        return scriptCount - 1;
    }

    // ---- what is there ----

    public int rule(int what) {
        return hasHeap && what >= 0 && what < RULES ? rules[what] : NONE;
    }

    public int root(int root) {
        return hasHeap && isRoot(root) ? now.numberOf(now.roots[root]) : NONE;
    }

    public int thing(int number, int what) throws NoSuchElementException {
        int slot = now.find(number);
        if (slot == NONE || what < 0 || what > 7) {
            throw new NoSuchElementException();
        }
        switch (what) {
            case 0: return now.space[slot];
            case 1: return now.place[slot];
            case 2: return now.kind[slot];
            case 3: return now.size[slot];
            case 4: return now.data[slot];
            case 5: return now.age[slot];
            case 6: return isReached(slot) ? 1 : 0;
            default: return now.ends.holds(slot) ? 1 : 0;
        }
    }

    public int field(int number, int field) {
        int slot = now.find(number);
        return now.hasField(slot, field) ? now.numberOf(now.target(slot, field)) : NONE;
    }

    public int at(int space, int place) {
        int slot = now.findAt(space, place);
        return slot == NONE ? NONE : now.numberOf(slot);
    }

    private static boolean isRoot(int root) {
        return root >= 0 && root < ROOTS;
    }

    private boolean isReached(int slot) {
        graph.reach(now, NONE);
        return graph.isSeen(slot);
    }

    // ---- acts ----

    public int make(int root, int kind, int fields, int data) {
        return act(MADE, root, kind, fields, data, true);
    }

    public int link(int root, int field, int other) {
        return act(LINKED, root, field, other, NONE, true);
    }

    public int load(int root, int other, int field) {
        return act(LOADED, root, other, field, NONE, true);
    }

    public int drop(int root) {
        return act(EMPTIED, root, NONE, NONE, NONE, true);
    }

    public int minor() {
        return act(MINOR, NONE, NONE, NONE, NONE, true);
    }

    public int major() {
        return act(MAJOR, NONE, NONE, NONE, NONE, true);
    }

    public int tell(int root) {
        return act(TOLD, root, NONE, NONE, NONE, true);
    }

    public int ask() {
        return act(ASKED, NONE, NONE, NONE, NONE, true);
    }

    public int years(int n, long seed) {
        if (!hasHeap || n < 1 || n > MOST_YEARS) {
            return NONE;
        }
        Draws draws = new Draws(seed);
        for (int year = 0; year < n; year++) {
            draws.drawAct();
            act(draws.sort, draws.a, draws.b, draws.c, draws.d, false);
        }
        return now.cellsInUse();
    }

    /** One ACT on the heap as it is; a refused one answers NONE, and STATUS counts it if it is to be counted. */
    private int act(int sort, int a, int b, int c, int d, boolean counted) {
        int answer = NO_SUCH;
        if (hasHeap) {
            past.prepare(now);
            answer = acts.apply(now, sort, a, b, c, d);
        }
        if (answer >= 0) {
            past.keepPrepared();
            return answer;
        }
        int reason = -1 - answer;
        if (counted && reason >= 0 && reason < REFUSALS) {
            refused[reason]++;
        }
        return NONE;
    }

    public int status(int what) {
        return what >= 0 && what < REFUSALS ? refused[what] : NONE;
    }

    public int undo() {
        return past.takeBack(now) ? past.length : NONE;
    }

    public int log(int i, int what) {
        int length = now.logSorts.length;
        if (i < 0 || i >= length || what < 0 || what > 2) {
            return HIDDEN;
        }
        int place = length - 1 - i;
        if (what == 0) {
            return now.logSorts.get(place);
        }
        return what == 1 ? now.logNumbers.get(place) : now.logCells.get(place);
    }

    // ---- lines ----

    public int remembered(int i, int what) {
        if (!hasHeap) {
            return NONE;
        }
        if (i == NONE) {
            return now.remembered.length;
        }
        if (i < 0 || i >= now.remembered.length || what < 0 || what > 1) {
            return NONE;
        }
        int entry = now.remembered.get(i);
        return what == 0 ? now.numberOf(entry / MOST_FIELDS) : entry % MOST_FIELDS;
    }

    public int line(int line, int i) {
        if (!hasHeap || line < 0 || line > 1) {
            return NONE;
        }
        Line told = line == 0 ? now.ends : now.lost;
        if (i == NONE) {
            return told.length;
        }
        if (i < 0 || i >= told.length) {
            return NONE;
        }
        return line == 0 ? now.numberOf(told.get(i)) : told.get(i);
    }

    // ---- questions ----

    public int would(boolean major, int what) {
        if (!hasHeap || what < 0 || what >= ONCE_COUNTS) {
            return NONE;
        }
        trial.copyFrom(now);
        if (major) {
            collector.collectAll(trial);
        } else if (!collector.collectYoung(trial)) {
            return NONE;
        }
        return collector.once[what];
    }

    public int path(int number, int i) {
        int slot = now.find(number);
        if (slot == NONE) {
            return NONE;
        }
        graph.findWays(now);
        return graph.wayTo(now, slot, i);
    }

    public int alone(int root, int what) {
        if (!hasHeap || !isRoot(root) || now.roots[root] == NONE || what < 0 || what > 1) {
            return NONE;
        }
        graph.reach(now, NONE);
        int with = what == 0 ? graph.queued : graph.seenCells(now);
        graph.reach(now, root);
        int without = what == 0 ? graph.queued : graph.seenCells(now);
        return with - without;
    }

    public int holders(int number) {
        int slot = now.find(number);
        if (slot == NONE) {
            return NONE;
        }
        graph.reach(now, NONE);
        return graph.holdersOf(now, slot);
    }

    public int round(int number) {
        int slot = now.find(number);
        return slot == NONE ? NONE : graph.wayBack(now, slot);
    }

    public int room(int fields) {
        if (!hasHeap || fields < 0 || fields > MOST_FIELDS) {
            return NONE;
        }
        return (rules[EDEN] - now.used[EDEN]) / (HEAD_CELLS + fields);
    }

    public boolean alike(int root, int other) {
        if (!hasHeap || !isRoot(root) || !isRoot(other)) {
            return false;
        }
        int left = now.roots[root];
        int right = now.roots[other];
        return left != NONE && right != NONE && graph.areAlike(now, left, right);
    }

    public int until(int number) {
        if (now.find(number) == NONE) {
            return NONE;
        }
        trial.copyFrom(now);
        for (int minors = 0; minors <= MOST_MINORS_AHEAD; minors++) {
            int slot = trial.find(number);
            if (slot == NONE) {
                return NONE;
            }
            if (!trial.isYoung(slot)) {
                return minors;
            }
            if (!collector.collectYoung(trial)) {
                return NONE;
            }
        }
        return NONE;
    }

    public int garbage(int space) {
        if (!hasHeap || space < 0 || space >= SPACES) {
            return NONE;
        }
        graph.reach(now, NONE);
        return graph.unseenCells(now, space);
    }

    // ---- scripts ----

    public int step(int script, int i, int what) {
        if (!isScript(script) || i < 0 || i >= scriptLengths[script] || what < 0 || what >= STEP_WIDTH) {
            return HIDDEN;
        }
        return scripts[script][i * STEP_WIDTH + what];
    }

    public int run(int script, int what) {
        if (!hasHeap || !isScript(script) || what < 0 || what > 1) {
            return HIDDEN;
        }
        int done = runOnTrial(scripts[script], scriptLengths[script]);
        if (what == 1) {
            return trial.cellsInUse();
        }
        return done == scriptLengths[script] ? NONE : done;
    }

    private int runOnTrial(int[] steps, int length) {
        trial.copyFrom(now);
        for (int done = 0; done < length; done++) {
            int at = done * STEP_WIDTH;
            if (acts.apply(trial, steps[at], steps[at + 1], steps[at + 2], steps[at + 3], steps[at + 4]) < 0) {
                return done;
            }
        }
        return length;
    }

    public int perform(int script) {
        if (!hasHeap || !isScript(script)) {
            return NONE;
        }
        int[] steps = scripts[script];
        int length = scriptLengths[script];
        for (int done = 0; done < length; done++) {
            int at = done * STEP_WIDTH;
            if (act(steps[at], steps[at + 1], steps[at + 2], steps[at + 3], steps[at + 4], false) < 0) {
                return done;
            }
        }
        return length;
    }

    private boolean isScript(int script) {
        return script >= 0 && script < scriptCount;
    }

    // ---- counts and images ----

    public int most(int what) {
        if (!hasHeap || what < 0 || what > 15) {
            return HIDDEN;
        }
        if (what < SPACES) {
            return now.used[what];
        }
        if (what >= FIRST_TALLY && what < FIRST_TALLY + TALLIES) {
            return now.tallies[what - FIRST_TALLY];
        }
        switch (what) {
            case 3: return now.objects;
            case 4: return reachedCount();
            case 13: return now.greatestAge();
            case 14: return now.linkedRoots();
            default: return now.survivorInUse;
        }
    }

    private int reachedCount() {
        graph.reach(now, NONE);
        return graph.queued;
    }

    public int image() {
        if (!hasHeap) {
            return NONE;
        }
        kept.copyFrom(now);
        hasImage = true;
        return now.cellsInUse();
    }

    public int back() {
        if (!hasHeap || !hasImage) {
            return NONE;
        }
        now.copyFrom(kept);
        past.length = 0;
        return now.cellsInUse();
    }

    public int count(int what) {
        switch (what) {
            case 0: return now.objects;
            case 1: return scriptCount;
            case 2: return tape.length;
            case 3: return now.logSorts.length;
            case 4: return past.length;
            default: return HIDDEN;
        }
    }

    /** A line of numbers; a new one pushes the first one out when the line is full. */
    private static final class Line {
        final int[] row;
        int length;

        Line(int most) {
            row = new int[Math.max(1, most)];
        }

        void copyFrom(Line other) {
            length = Math.min(other.length, row.length);
            System.arraycopy(other.row, 0, row, 0, length);
        }

        int get(int i) {
            return i >= 0 && i < length ? row[i] : NONE;
        }

        void set(int i, int value) {
            if (i >= 0 && i < length) {
                row[i] = value;
            }
        }

        void add(int value) {
            if (length == row.length) {
                length--;
                System.arraycopy(row, 1, row, 0, length);
            }
            row[length] = value;
            length++;
        }

        void removeAt(int i) {
            if (i >= 0 && i < length) {
                length--;
                System.arraycopy(row, i + 1, row, i, length - i);
            }
        }

        int find(int value) {
            for (int i = 0; i < length; i++) {
                if (row[i] == value) {
                    return i;
                }
            }
            return NONE;
        }

        boolean holds(int value) {
            return find(value) != NONE;
        }
    }

    /** All that ACTS change, so that undoing, images and trials are plain copies. */
    private static final class State {
        int objects;
        int survivorInUse;
        final int[] number = new int[MOST_OBJECTS];
        final int[] kind = new int[MOST_OBJECTS];
        final int[] size = new int[MOST_OBJECTS];
        final int[] data = new int[MOST_OBJECTS];
        final int[] age = new int[MOST_OBJECTS];
        final int[] space = new int[MOST_OBJECTS];
        final int[] place = new int[MOST_OBJECTS];
        final int[] links = new int[MOST_OBJECTS * MOST_FIELDS];
        final int[] roots = new int[ROOTS];
        final int[] used = new int[SPACES];
        final int[] tallies = new int[TALLIES];
        final Line ends = new Line(MOST_OBJECTS);
        final Line lost = new Line(MOST_LOST);
        final Line remembered = new Line(MOST_REMEMBERED);
        final Line logSorts = new Line(MOST_LOGGED);
        final Line logNumbers = new Line(MOST_LOGGED);
        final Line logCells = new Line(MOST_LOGGED);

        State() {
            Arrays.fill(roots, NONE);
        }

        void clear() {
            objects = 0;
            survivorInUse = 0;
            Arrays.fill(roots, NONE);
            Arrays.fill(used, 0);
            Arrays.fill(tallies, 0);
            ends.length = 0;
            lost.length = 0;
            remembered.length = 0;
            logSorts.length = 0;
            logNumbers.length = 0;
            logCells.length = 0;
        }

        void copyFrom(State other) {
            objects = other.objects;
            survivorInUse = other.survivorInUse;
            System.arraycopy(other.number, 0, number, 0, objects);
            System.arraycopy(other.kind, 0, kind, 0, objects);
            System.arraycopy(other.size, 0, size, 0, objects);
            System.arraycopy(other.data, 0, data, 0, objects);
            System.arraycopy(other.age, 0, age, 0, objects);
            System.arraycopy(other.space, 0, space, 0, objects);
            System.arraycopy(other.place, 0, place, 0, objects);
            System.arraycopy(other.links, 0, links, 0, objects * MOST_FIELDS);
            System.arraycopy(other.roots, 0, roots, 0, ROOTS);
            System.arraycopy(other.used, 0, used, 0, SPACES);
            System.arraycopy(other.tallies, 0, tallies, 0, TALLIES);
            ends.copyFrom(other.ends);
            lost.copyFrom(other.lost);
            remembered.copyFrom(other.remembered);
            logSorts.copyFrom(other.logSorts);
            logNumbers.copyFrom(other.logNumbers);
            logCells.copyFrom(other.logCells);
        }

        boolean isSlot(int slot) {
            return slot >= 0 && slot < objects;
        }

        int find(int wanted) {
            for (int slot = 0; slot < objects; slot++) {
                if (number[slot] == wanted) {
                    return slot;
                }
            }
            return NONE;
        }

        int findAt(int wantedSpace, int cell) {
            for (int slot = 0; slot < objects; slot++) {
                if (space[slot] == wantedSpace && place[slot] <= cell && cell < place[slot] + cells(slot)) {
                    return slot;
                }
            }
            return NONE;
        }

        int numberOf(int slot) {
            return isSlot(slot) ? number[slot] : 0;
        }

        // These test the slot themselves, without isSlot: collections call them at the deepest that calls may go.

        int cells(int slot) {
            return slot >= 0 && slot < objects ? HEAD_CELLS + size[slot] : 0;
        }

        boolean isYoung(int slot) {
            return slot >= 0 && slot < objects && space[slot] != OLD;
        }

        boolean isWeak(int slot) {
            return slot >= 0 && slot < objects && kind[slot] == WEAK;
        }

        /** The first field that is not weak: those ahead of it keep nothing. */
        int firstStrong(int slot) {
            return slot >= 0 && slot < objects && kind[slot] == WEAK ? 1 : 0;
        }

        /** How many fields: 0 of no such slot. */
        int fieldsOf(int slot) {
            return slot >= 0 && slot < objects ? size[slot] : 0;
        }

        int target(int slot, int field) {
            if (slot < 0 || slot >= objects || field < 0 || field >= size[slot]) {
                return NONE;
            }
            return links[slot * MOST_FIELDS + field];
        }

        boolean hasField(int slot, int field) {
            return slot >= 0 && slot < objects && field >= 0 && field < size[slot];
        }

        void setTarget(int slot, int field, int other) {
            if (hasField(slot, field)) {
                links[slot * MOST_FIELDS + field] = other;
            }
        }

        int cellsInUse() {
            return used[EDEN] + used[SURVIVOR] + used[OLD];
        }

        int greatestAge() {
            int greatest = 0;
            for (int slot = 0; slot < objects; slot++) {
                greatest = Math.max(greatest, age[slot]);
            }
            return greatest;
        }

        int linkedRoots() {
            int bits = 0;
            for (int root = 0; root < ROOTS; root++) {
                if (roots[root] != NONE) {
                    bits |= 1 << root;
                }
            }
            return bits;
        }

        void note(int sort, int about) {
            logSorts.add(sort);
            logNumbers.add(about);
            logCells.add(cellsInUse());
        }

        /** A new object in EDEN, behind all others there; the caller has seen that there is room. */
        int addObject(int newKind, int fields, int newData) {
            if (objects >= MOST_OBJECTS) {
                return NONE;
            }
            int slot = objects;
            objects++;
            tallies[EVER_MADE]++;
            number[slot] = tallies[EVER_MADE];
            kind[slot] = newKind;
            size[slot] = fields;
            data[slot] = newData;
            age[slot] = 0;
            space[slot] = EDEN;
            place[slot] = used[EDEN];
            used[EDEN] += cells(slot);
            Arrays.fill(links, slot * MOST_FIELDS, (slot + 1) * MOST_FIELDS, NONE);
            return slot;
        }

        boolean isOldToYoung(int slot, int field) {
            return isSlot(slot) && !isYoung(slot) && isYoung(target(slot, field));
        }

        /** A field that stays linked to a YOUNG one keeps its place among the REMEMBERED. */
        void refreshRemembered(int slot, int field) {
            int entry = slot * MOST_FIELDS + field;
            int where = remembered.find(entry);
            boolean due = isOldToYoung(slot, field);
            if (due && where == NONE) {
                remembered.add(entry);
            } else if (!due && where != NONE) {
                remembered.removeAt(where);
            }
        }

        /** Takes away the slots whose new slot is NONE; the others close up, and all links follow them. */
        void closeUp(int[] newSlot) {
            int before = objects;
            int left = 0;
            for (int slot = 0; slot < before; slot++) {
                if (newSlot[slot] != NONE) {
                    moveSlot(slot, left, newSlot);
                    left++;
                }
            }
            objects = left;
            for (int root = 0; root < ROOTS; root++) {
                roots[root] = renamed(roots[root], newSlot);
            }
            for (int i = 0; i < ends.length; i++) {
                ends.set(i, renamed(ends.get(i), newSlot));
            }
            for (int i = 0; i < remembered.length; i++) {
                int entry = remembered.get(i);
                remembered.set(i, renamed(entry / MOST_FIELDS, newSlot) * MOST_FIELDS + entry % MOST_FIELDS);
            }
        }

        private void moveSlot(int from, int to, int[] newSlot) {
            number[to] = number[from];
            kind[to] = kind[from];
            size[to] = size[from];
            data[to] = data[from];
            age[to] = age[from];
            space[to] = space[from];
            place[to] = place[from];
            for (int field = 0; field < MOST_FIELDS; field++) {
                links[to * MOST_FIELDS + field] = renamed(links[from * MOST_FIELDS + field], newSlot);
            }
        }

        private static int renamed(int slot, int[] newSlot) {
            return slot >= 0 && slot < newSlot.length ? newSlot[slot] : NONE;
        }
    }

    /** States as they were ahead of the latest ACTS; one place more than can be undone, for the one prepared. */
    private static final class Past {
        final State[] ring = new State[MOST_UNDONE + 1];
        int next;
        int length;

        void prepare(State now) {
            if (ring[next] == null) {
                ring[next] = new State();
            }
            ring[next].copyFrom(now);
        }

        void keepPrepared() {
            next = (next + 1) % ring.length;
            length = Math.min(length + 1, MOST_UNDONE);
        }

        boolean takeBack(State now) {
            int last = (next + ring.length - 1) % ring.length;
            if (length == 0 || ring[last] == null) {
                return false;
            }
            now.copyFrom(ring[last]);
            next = last;
            length--;
            return true;
        }
    }

    /** Walks over fields; each walk uses the same rows again. */
    private static final class Graph {
        final int[] seen = new int[MOST_OBJECTS];
        final int[] queue = new int[MOST_OBJECTS];
        final int[] distance = new int[MOST_OBJECTS];
        final int[] cameFrom = new int[MOST_OBJECTS];
        final int[] byField = new int[MOST_OBJECTS];
        final int[] beside = new int[MOST_OBJECTS];
        final int[] besideBack = new int[MOST_OBJECTS];
        int queued;

        void begin() {
            Arrays.fill(seen, 0);
            queued = 0;
        }

        boolean isSeen(int slot) {
            return slot >= 0 && slot < MOST_OBJECTS && seen[slot] != 0;
        }

        void visit(int slot, int from, int field) {
            if (slot < 0 || slot >= MOST_OBJECTS || seen[slot] != 0 || queued >= MOST_OBJECTS) {
                return;
            }
            seen[slot] = 1;
            distance[slot] = from == NONE ? 0 : distance[from] + 1;
            cameFrom[slot] = from;
            byField[slot] = field;
            queue[queued] = slot;
            queued++;
        }

        /** Visits all that is come to from what was visited at the place 'first' of the queue or behind it. */
        void spread(State state, int first) {
            for (int i = first; i < queued && i < MOST_OBJECTS; i++) {
                int slot = queue[i];
                for (int field = state.firstStrong(slot); field < state.fieldsOf(slot); field++) {
                    visit(state.target(slot, field), slot, field);
                }
            }
        }

        /** Sees what is REACHED, with one of the ROOTS left out (NONE: with all). */
        void reach(State state, int leftOut) {
            begin();
            for (int root = 0; root < ROOTS; root++) {
                if (root != leftOut) {
                    visit(state.roots[root], NONE, NONE);
                }
            }
            for (int i = 0; i < state.ends.length; i++) {
                visit(state.ends.get(i), NONE, NONE);
            }
            spread(state, 0);
        }

        int seenCells(State state) {
            int cells = 0;
            for (int i = 0; i < queued; i++) {
                cells += state.cells(queue[i]);
            }
            return cells;
        }

        int unseenCells(State state, int space) {
            int cells = 0;
            for (int slot = 0; slot < state.objects; slot++) {
                if (state.space[slot] == space && seen[slot] == 0) {
                    cells += state.cells(slot);
                }
            }
            return cells;
        }

        int holdersOf(State state, int wanted) {
            int holders = 0;
            for (int root = 0; root < ROOTS; root++) {
                if (state.roots[root] == wanted) {
                    holders++;
                }
            }
            for (int i = 0; i < queued; i++) {
                int slot = queue[i];
                for (int field = state.firstStrong(slot); field < state.fieldsOf(slot); field++) {
                    if (state.target(slot, field) == wanted) {
                        holders++;
                    }
                }
            }
            return holders;
        }

        /** As ROOTS and FIELDS are gone through rising, the first way that comes to an object is the lowest one. */
        void findWays(State state) {
            begin();
            for (int root = 0; root < ROOTS; root++) {
                visit(state.roots[root], NONE, NONE);
            }
            spread(state, 0);
        }

        int wayTo(State state, int goal, int i) {
            if (!isSeen(goal)) {
                return NONE;
            }
            int length = distance[goal];
            if (i == NONE) {
                return length;
            }
            if (i < 0 || i > length) {
                return NONE;
            }
            int slot = goal;
            for (int left = length; left > i && cameFrom[slot] != NONE; left--) {
                slot = cameFrom[slot];
            }
            return i == 0 ? lowestRootOf(state, slot) : byField[slot];
        }

        private static int lowestRootOf(State state, int slot) {
            for (int root = 0; root < ROOTS; root++) {
                if (state.roots[root] == slot) {
                    return root;
                }
            }
            return NONE;
        }

        int wayBack(State state, int start) {
            begin();
            visit(start, NONE, NONE);
            for (int i = 0; i < queued && i < MOST_OBJECTS; i++) {
                int slot = queue[i];
                for (int field = state.firstStrong(slot); field < state.fieldsOf(slot); field++) {
                    int other = state.target(slot, field);
                    if (other == start) {
                        return distance[slot] + 1;
                    }
                    visit(other, slot, field);
                }
            }
            return NONE;
        }

        /** Fields are told apart by their places, so there is at most one way to set objects side by side. */
        boolean areAlike(State state, int left, int right) {
            Arrays.fill(beside, NONE);
            Arrays.fill(besideBack, NONE);
            queued = 0;
            boolean alike = setBeside(left, right);
            for (int i = 0; alike && i < queued && i < MOST_OBJECTS; i++) {
                alike = areAlikeHere(state, queue[i], beside[queue[i]]);
            }
            return alike;
        }

        private boolean areAlikeHere(State state, int left, int right) {
            if (!state.isSlot(left) || !state.isSlot(right) || state.kind[left] != state.kind[right]
                || state.data[left] != state.data[right] || state.size[left] != state.size[right]) {
                return false;
            }
            boolean alike = true;
            for (int field = 0; alike && field < state.size[left]; field++) {
                alike = setBeside(state.target(left, field), state.target(right, field));
            }
            return alike;
        }

        private boolean setBeside(int left, int right) {
            if (left < 0 || right < 0 || left >= MOST_OBJECTS || right >= MOST_OBJECTS) {
                return left == right;
            }
            if (beside[left] != NONE || besideBack[right] != NONE) {
                return beside[left] == right && besideBack[right] == left;
            }
            beside[left] = right;
            besideBack[right] = left;
            queue[queued] = left;
            queued++;
            return true;
        }
    }

    /** MINOR and MAJOR. */
    private static final class Collector {
        // How an object is kept by a collection: not at all, by its steps (1) and (2), or by its step (3) alone.
        private static final int UNKEPT = 0;
        private static final int FIRST = 1;
        private static final int SECOND = 2;

        final int[] rules;
        final Graph graph;
        final int[] once = new int[ONCE_COUNTS];
        final int[] stage = new int[MOST_OBJECTS];
        final int[] order = new int[MOST_OBJECTS];
        final int[] newSpace = new int[MOST_OBJECTS];
        final int[] newPlace = new int[MOST_OBJECTS];
        final int[] newSlot = new int[MOST_OBJECTS];
        final int[] filled = new int[SPACES];
        final int[] lyingAt = new int[MOST_OLD_CELLS];
        int moved;
        boolean stuck;

        Collector(int[] rules, Graph graph) {
            this.rules = rules;
            this.graph = graph;
        }

        /** A MINOR. False: it can't be, and nothing is changed. */
        boolean collectYoung(State state) {
            beginPlan(state);
            planFromRoots(state);
            planFrom(state, 0, FIRST);
            planFromLasting(state);
            if (stuck) {
                return false;
            }
            Arrays.fill(once, 0);
            emptyWeak(state, FIRST);
            lineUpLasting(state);
            emptyWeak(state, SECOND);
            settle(state);
            dropRemembered(state);
            rememberMoved(state);
            nameSlotsAnew(state, false);
            state.closeUp(newSlot);
            state.tallies[EVER_MINORS]++;
            addCounts(state, ONCE_MOVED);
            return true;
        }

        /** A MAJOR. */
        void collectAll(State state) {
            Arrays.fill(once, 0);
            graph.reach(state, NONE);
            stageByMarks(state);
            markLasting(state);
            emptyWeak(state, FIRST);
            lineUpLasting(state);
            emptyWeak(state, SECOND);
            pushTogether(state);
            unlinkUnkeptYoung(state);
            dropRemembered(state);
            nameSlotsAnew(state, true);
            state.closeUp(newSlot);
            state.tallies[EVER_MAJORS]++;
            // What a MAJOR pushes together does not count as moved.
            addCounts(state, ONCE_GONE);
        }

        private void addCounts(State state, int first) {
            for (int i = first; i < ONCE_COUNTS; i++) {
                state.tallies[EVER_MOVED + i] += once[i];
            }
        }

        // Where all are to go is found out first, as a MINOR that can't be must leave all as it was.
        private void beginPlan(State state) {
            moved = 0;
            stuck = false;
            filled[SURVIVOR] = 0;
            filled[OLD] = state.used[OLD];
            for (int slot = 0; slot < state.objects; slot++) {
                stage[slot] = state.isYoung(slot) ? UNKEPT : FIRST;
            }
        }

        private void planFromRoots(State state) {
            for (int root = 0; root < ROOTS; root++) {
                planMove(state, state.roots[root], FIRST);
            }
            for (int i = 0; i < state.ends.length; i++) {
                planMove(state, state.ends.get(i), FIRST);
            }
            for (int i = 0; i < state.remembered.length; i++) {
                int entry = state.remembered.get(i);
                int slot = entry / MOST_FIELDS;
                int field = entry % MOST_FIELDS;
                if (field >= state.firstStrong(slot)) {
                    planMove(state, state.target(slot, field), FIRST);
                }
            }
        }

        private void planFrom(State state, int first, int how) {
            for (int i = first; i < moved && i < MOST_OBJECTS; i++) {
                int slot = order[i];
                for (int field = state.firstStrong(slot); field < state.fieldsOf(slot); field++) {
                    planMove(state, state.target(slot, field), how);
                }
            }
        }

        private void planFromLasting(State state) {
            for (int slot = 0; slot < state.objects; slot++) {
                if (state.kind[slot] == LASTING && stage[slot] == UNKEPT) {
                    int first = moved;
                    planMove(state, slot, SECOND);
                    planFrom(state, first, SECOND);
                }
            }
        }

        private void planMove(State state, int slot, int how) {
            if (stuck || slot < 0 || slot >= state.objects || stage[slot] != UNKEPT) {
                return;
            }
            int cells = HEAD_CELLS + state.size[slot];
            boolean staysYoung = state.age[slot] + 1 < rules[AGE] && filled[SURVIVOR] + cells <= rules[SURVIVOR];
            int where = staysYoung ? SURVIVOR : OLD;
            if (filled[where] + cells > rules[where]) {
                stuck = true;
                return;
            }
            newSpace[slot] = where;
            newPlace[slot] = filled[where];
            filled[where] += cells;
            stage[slot] = how;
            order[moved] = slot;
            moved++;
        }

        private void stageByMarks(State state) {
            for (int slot = 0; slot < state.objects; slot++) {
                stage[slot] = graph.isSeen(slot) ? FIRST : UNKEPT;
            }
        }

        private void markLasting(State state) {
            int first = graph.queued;
            for (int slot = 0; slot < state.objects; slot++) {
                if (state.kind[slot] == LASTING) {
                    graph.visit(slot, NONE, NONE);
                }
            }
            graph.spread(state, first);
            for (int i = first; i < graph.queued; i++) {
                stage[graph.queue[i]] = SECOND;
            }
        }

        // From here on MINOR and MAJOR go alike: it is known who is kept, and how.

        private void lineUpLasting(State state) {
            for (int slot = 0; slot < state.objects; slot++) {
                if (state.kind[slot] == LASTING && stage[slot] != FIRST) {
                    state.ends.add(slot);
                    once[ONCE_ENDED]++;
                }
            }
        }

        private void emptyWeak(State state, int how) {
            for (int slot = 0; slot < state.objects; slot++) {
                int other = state.target(slot, 0);
                if (state.isWeak(slot) && stage[slot] == how && state.isSlot(other)
                    && (stage[other] == UNKEPT || stage[other] > how)) {
                    state.setTarget(slot, 0, NONE);
                    state.lost.add(state.number[slot]);
                    once[ONCE_EMPTIED]++;
                }
            }
        }

        private void settle(State state) {
            for (int i = 0; i < moved; i++) {
                int slot = order[i];
                state.age[slot]++;
                state.space[slot] = newSpace[slot];
                state.place[slot] = newPlace[slot];
                once[ONCE_MOVED]++;
                if (newSpace[slot] == OLD) {
                    once[ONCE_TO_OLD]++;
                }
            }
            state.used[EDEN] = 0;
            state.used[SURVIVOR] = filled[SURVIVOR];
            state.used[OLD] = filled[OLD];
            state.survivorInUse = 1 - state.survivorInUse;
        }

        private void pushTogether(State state) {
            Arrays.fill(lyingAt, NONE);
            for (int slot = 0; slot < state.objects; slot++) {
                int place = state.place[slot];
                if (!state.isYoung(slot) && stage[slot] != UNKEPT && place >= 0 && place < MOST_OLD_CELLS) {
                    lyingAt[place] = slot;
                }
            }
            int next = 0;
            for (int place = 0; place < MOST_OLD_CELLS; place++) {
                int slot = lyingAt[place];
                if (slot != NONE) {
                    once[ONCE_MOVED] += place == next ? 0 : 1;
                    state.place[slot] = next;
                    next += state.cells(slot);
                }
            }
            state.used[OLD] = next;
        }

        private void unlinkUnkeptYoung(State state) {
            for (int slot = 0; slot < state.objects; slot++) {
                if (state.isYoung(slot) && stage[slot] == UNKEPT) {
                    for (int field = 0; field < state.fieldsOf(slot); field++) {
                        state.setTarget(slot, field, NONE);
                    }
                }
            }
        }

        private void dropRemembered(State state) {
            Line line = state.remembered;
            int left = 0;
            for (int i = 0; i < line.length; i++) {
                int entry = line.get(i);
                int slot = entry / MOST_FIELDS;
                if (state.isOldToYoung(slot, entry % MOST_FIELDS) && stage[slot] != UNKEPT) {
                    line.set(left, entry);
                    left++;
                }
            }
            line.length = left;
        }

        private void rememberMoved(State state) {
            for (int i = 0; i < moved; i++) {
                int slot = order[i];
                for (int field = 0; field < state.fieldsOf(slot); field++) {
                    if (state.isOldToYoung(slot, field)) {
                        state.remembered.add(slot * MOST_FIELDS + field);
                    }
                }
            }
        }

        private void nameSlotsAnew(State state, boolean youngStay) {
            int left = 0;
            for (int slot = 0; slot < state.objects; slot++) {
                if (stage[slot] != UNKEPT || (youngStay && state.isYoung(slot))) {
                    newSlot[slot] = left;
                    left++;
                } else {
                    newSlot[slot] = NONE;
                    once[ONCE_GONE]++;
                }
            }
        }
    }

    /** The ACTS on any state: an answer of 0 or more, or why it is refused; a refused one changes nothing. */
    private static final class Acts {
        final int[] rules;
        final Collector collector;
        final State before = new State();

        Acts(int[] rules, Collector collector) {
            this.rules = rules;
            this.collector = collector;
        }

        int apply(State state, int sort, int a, int b, int c, int d) {
            switch (sort) {
                case MADE: return makeObject(state, a, b, c, d);
                case LINKED: return linkField(state, a, b, c);
                case LOADED: return loadRoot(state, a, b, c);
                case EMPTIED: return emptyRoot(state, a);
                case MINOR: return actMinor(state);
                case MAJOR: return actMajor(state);
                case TOLD: return tellEnd(state, a);
                case ASKED: return askLost(state);
                default: return NO_SUCH;
            }
        }

        private int makeObject(State state, int root, int kind, int fields, int data) {
            if (!isRoot(root)) {
                return NO_SUCH;
            }
            if (kind < PLAIN || kind > LASTING || fields < 0 || fields > MOST_FIELDS || data < 0 || data > MOST_DATA
                || (kind == WEAK && fields == 0)) {
                return OUT_OF_BOUNDS;
            }
            boolean fits = state.used[EDEN] + HEAD_CELLS + fields <= rules[EDEN];
            if (!fits && !collector.collectYoung(state)) {
                before.copyFrom(state);
                collector.collectAll(state);
                if (!collector.collectYoung(state)) {
                    state.copyFrom(before);
                    return NO_ROOM;
                }
            }
            int slot = state.addObject(kind, fields, data);
            state.roots[root] = slot;
            state.note(MADE, state.numberOf(slot));
            return state.numberOf(slot);
        }

        private int linkField(State state, int root, int field, int other) {
            if (!isLinkedRoot(state, root) || (other != NO_ROOT && !isLinkedRoot(state, other))) {
                return NO_SUCH;
            }
            int slot = state.roots[root];
            if (!state.hasField(slot, field)) {
                return OUT_OF_BOUNDS;
            }
            int was = state.target(slot, field);
            int becomes = other == NO_ROOT ? NONE : state.roots[other];
            if (was == becomes) {
                return IS_SO;
            }
            state.setTarget(slot, field, becomes);
            state.refreshRemembered(slot, field);
            state.note(LINKED, state.number[slot]);
            return state.numberOf(was);
        }

        private int loadRoot(State state, int root, int other, int field) {
            if (!isRoot(root) || !isLinkedRoot(state, other)) {
                return NO_SUCH;
            }
            int slot = state.roots[other];
            if (!state.hasField(slot, field)) {
                return OUT_OF_BOUNDS;
            }
            int was = state.roots[root];
            int loaded = state.target(slot, field);
            state.roots[root] = loaded;
            state.note(LOADED, state.numberOf(was));
            return state.numberOf(loaded);
        }

        private int emptyRoot(State state, int root) {
            if (!isRoot(root)) {
                return NO_SUCH;
            }
            int was = state.roots[root];
            if (was == NONE) {
                return IS_SO;
            }
            state.roots[root] = NONE;
            state.note(EMPTIED, state.numberOf(was));
            return state.numberOf(was);
        }

        private int actMinor(State state) {
            if (!collector.collectYoung(state)) {
                return NO_ROOM;
            }
            int gone = collector.once[ONCE_GONE];
            state.note(MINOR, gone);
            return gone;
        }

        private int actMajor(State state) {
            collector.collectAll(state);
            int gone = collector.once[ONCE_GONE];
            state.note(MAJOR, gone);
            return gone;
        }

        private int tellEnd(State state, int root) {
            if (root != NO_ROOT && !isRoot(root)) {
                return NO_SUCH;
            }
            int slot = state.ends.get(0);
            if (!state.isSlot(slot)) {
                return IS_SO;
            }
            state.ends.removeAt(0);
            state.kind[slot] = PLAIN;
            if (root != NO_ROOT) {
                state.roots[root] = slot;
            }
            state.note(TOLD, state.number[slot]);
            return state.number[slot];
        }

        private int askLost(State state) {
            if (state.lost.length == 0) {
                return IS_SO;
            }
            int asked = state.lost.get(0);
            state.lost.removeAt(0);
            state.note(ASKED, asked);
            return asked;
        }

        private static boolean isLinkedRoot(State state, int root) {
            return isRoot(root) && state.roots[root] != NONE;
        }
    }

    /** ACTS drawn one behind another from a seed. */
    private static final class Draws {
        private long x;
        int sort;
        int a;
        int b;
        int c;
        int d;

        Draws(long seed) {
            x = seed;
        }

        void drawAct() {
            int choice = next(10);
            if (choice <= 3) {
                tellAct(MADE, next(8), next(3), next(4) + 1, next(1000));
            } else if (choice <= 6) {
                tellAct(LINKED, next(8), next(4), next(9), NONE);
            } else if (choice == 7) {
                tellAct(LOADED, next(8), next(8), next(4), NONE);
            } else if (choice == 8) {
                tellAct(EMPTIED, next(8), NONE, NONE, NONE);
            } else {
                drawRareAct();
            }
        }

        private void drawRareAct() {
            int choice = next(3);
            if (choice == 0) {
                tellAct(MINOR, NONE, NONE, NONE, NONE);
            } else if (choice == 1) {
                tellAct(MAJOR, NONE, NONE, NONE, NONE);
            } else {
                tellAct(TOLD, next(9), NONE, NONE, NONE);
            }
        }

        private void tellAct(int newSort, int newA, int newB, int newC, int newD) {
            sort = newSort;
            a = newA;
            b = newB;
            c = newC;
            d = newD;
        }

        private int next(int sorts) {
            x = x * 6364136223846793005L + 1442695040888963407L;
            return sorts <= 0 ? 0 : (int) ((x >>> 33) % sorts);
        }
    }

    /** The bytes fed so far; none of them is 0. */
    private static final class Tape {
        final int[] bytes = new int[MOST_BYTES];
        int length;

        static int bytesIn(int number) {
            int bytes = 0;
            for (int shift = 24; shift >= 0; shift -= 8) {
                if ((number >>> shift & 255) != 0) {
                    bytes++;
                }
            }
            return bytes;
        }

        void addBytes(int number) {
            for (int shift = 24; shift >= 0; shift -= 8) {
                int sign = number >>> shift & 255;
                if (sign != 0 && length < MOST_BYTES) {
                    bytes[length] = sign;
                    length++;
                }
            }
        }

        /** 0 behind the last byte. */
        int byteAt(int i) {
            return i >= 0 && i < length ? bytes[i] : 0;
        }
    }

    /** Reads the tape as a HEAP or a SCRIPT; each reading answers its FAULT, or NONE. */
    private static final class Reader {
        private static final String ITEM_LETTERS = "esoa";
        private static final int[] ITEM_LEAST = {8, 4, 16, 1};
        private static final int[] ITEM_GREATEST = {64, 32, 128, 5};
        private static final int[] ITEM_USUAL = {24, 8, 48, 2};
        private static final String STEP_LETTERS = "nwlxmje";
        private static final int[] STEP_NUMBERS = {4, 3, 3, 1, 0, 0, 1};
        private static final int END_OF_TAPE = 0;

        final Tape tape;
        final int[] rules = new int[RULES];
        final int[] steps = new int[MOST_STEPS * STEP_WIDTH];
        int stepCount;
        int place;
        int fault;

        Reader(Tape tape) {
            this.tape = tape;
        }

        int readHeap() {
            place = 0;
            System.arraycopy(ITEM_USUAL, 0, rules, 0, RULES);
            if (nextSign() != 'h') {
                return place;
            }
            place++;
            int told = 0;
            for (int i = 0; i <= RULES; i++) {
                int sign = nextSign();
                if (sign == END_OF_TAPE) {
                    return NONE;
                }
                int item = ITEM_LETTERS.indexOf((char) sign);
                if (item < 0 || item >= RULES || (told >> item & 1) != 0) {
                    return place;
                }
                place++;
                told |= 1 << item;
                rules[item] = readNumber(ITEM_LEAST[item], ITEM_GREATEST[item]);
                if (rules[item] == NONE) {
                    return fault;
                }
            }
            return place;
        }

        int readScript() {
            place = 0;
            stepCount = 0;
            for (int i = 0; i < MOST_STEPS; i++) {
                if (!readStep(i)) {
                    return fault;
                }
                stepCount++;
                int sign = nextSign();
                if (sign == END_OF_TAPE) {
                    return NONE;
                }
                if (sign != ';') {
                    return place;
                }
                place++;
            }
            // Sixteen steps stand, and the ; that was read last would be ahead of a 17th one.
            return place - 1;
        }

        private boolean readStep(int i) {
            int sort = STEP_LETTERS.indexOf((char) nextSign());
            if (sort < 0 || sort >= STEP_NUMBERS.length) {
                fault = place;
                return false;
            }
            place++;
            int at = i * STEP_WIDTH;
            steps[at] = sort;
            for (int k = 1; k < STEP_WIDTH; k++) {
                steps[at + k] = NONE;
            }
            for (int k = 1; k <= STEP_NUMBERS[sort]; k++) {
                if (k > 1 && !readComma()) {
                    return false;
                }
                steps[at + k] = readNumber(0, 999);
                if (steps[at + k] == NONE) {
                    return false;
                }
            }
            return true;
        }

        private boolean readComma() {
            if (nextSign() != ',') {
                fault = place;
                return false;
            }
            place++;
            return true;
        }

        private int readNumber(int least, int greatest) {
            int value = 0;
            int digits = 0;
            int sign = nextSign();
            while (digits < 3 && isDigit(sign)) {
                value = value * 10 + sign - '0';
                digits++;
                place++;
                sign = tape.byteAt(place);
            }
            if (digits == 0 || isDigit(sign)) {
                fault = place;
                return NONE;
            }
            if (value < least || value > greatest) {
                fault = place - 1;
                return NONE;
            }
            return value;
        }

        private static boolean isDigit(int sign) {
            return sign >= '0' && sign <= '9';
        }

        /** Goes over blanks; the sign that stands then at 'place'. */
        private int nextSign() {
            while (place < tape.length && tape.byteAt(place) == ' ') {
                place++;
            }
            return tape.byteAt(place);
        }
    }
}
