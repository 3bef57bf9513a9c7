import java.util.ArrayDeque;
import java.util.ArrayList;
import java.util.Collection;
import java.util.HashMap;
import java.util.HashSet;
import java.util.LinkedHashSet;
import java.util.List;
import java.util.Map;
import java.util.Set;
import java.util.TreeMap;

/**
 * The document once more, as plainly as the Java library allows: objects linked by references, every collection done
 * step by step on a deep copy. It shares no code and no way of holding the state with the class under test.
 */
final class PlainModel {
    static final class Thing {
        int number;
        int kind;
        int data;
        int age;
        int space;
        int place;
        Thing[] fields;

        int cells() {
            return 3 + fields.length;
        }

        boolean old() {
            return space == 2;
        }

        List<Thing> strong() {
            List<Thing> all = new ArrayList<>();
            for (int f = 0; f < fields.length; f++) {
                if (!(kind == 1 && f == 0) && fields[f] != null) {
                    all.add(fields[f]);
                }
            }
            return all;
        }
    }

    static final class World {
        TreeMap<Integer, Thing> things = new TreeMap<>();
        Thing[] roots = new Thing[8];
        List<Thing> ends = new ArrayList<>();
        List<Integer> lost = new ArrayList<>();
        List<int[]> remembered = new ArrayList<>();
        List<int[]> log = new ArrayList<>();
        int[] ever = new int[8];
        int inUse;

        World copy() {
            World w = new World();
            for (Thing t : things.values()) {
                Thing u = new Thing();
                u.number = t.number;
                u.kind = t.kind;
                u.data = t.data;
                u.age = t.age;
                u.space = t.space;
                u.place = t.place;
                u.fields = new Thing[t.fields.length];
                w.things.put(u.number, u);
            }
            for (Thing t : things.values()) {
                for (int f = 0; f < t.fields.length; f++) {
                    w.things.get(t.number).fields[f] = w.same(t.fields[f]);
                }
            }
            for (int r = 0; r < 8; r++) {
                w.roots[r] = w.same(roots[r]);
            }
            for (Thing t : ends) {
                w.ends.add(w.same(t));
            }
            w.lost.addAll(lost);
            for (int[] e : remembered) {
                w.remembered.add(e.clone());
            }
            for (int[] e : log) {
                w.log.add(e.clone());
            }
            w.ever = ever.clone();
            w.inUse = inUse;
            return w;
        }

        Thing same(Thing t) {
            if (t == null) {
                return null;
            }
            Thing u = things.get(t.number);
            if (u == null) {
                throw new IllegalStateException("a link to what is gone: " + t.number);
            }
            return u;
        }

        int cells(int space) {
            int sum = 0;
            for (Thing t : things.values()) {
                sum += t.space == space ? t.cells() : 0;
            }
            return sum;
        }

        int cells() {
            return cells(0) + cells(1) + cells(2);
        }

        Set<Thing> closure(Collection<Thing> from) {
            Set<Thing> seen = new LinkedHashSet<>();
            ArrayDeque<Thing> open = new ArrayDeque<>(from);
            while (!open.isEmpty()) {
                Thing t = open.pop();
                if (seen.add(t)) {
                    open.addAll(t.strong());
                }
            }
            return seen;
        }

        Set<Thing> reached(int without) {
            List<Thing> from = new ArrayList<>(ends);
            for (int r = 0; r < 8; r++) {
                if (r != without && roots[r] != null) {
                    from.add(roots[r]);
                }
            }
            return closure(from);
        }

        boolean isSo(int[] entry) {
            Thing t = things.get(entry[0]);
            return t != null && t.old() && t.fields[entry[1]] != null && !t.fields[entry[1]].old();
        }

        boolean knows(int number, int field) {
            for (int[] e : remembered) {
                if (e[0] == number && e[1] == field) {
                    return true;
                }
            }
            return false;
        }

        void lose(Thing weak, int[] counts) {
            weak.fields[0] = null;
            lost.add(weak.number);
            if (lost.size() > 40) {
                lost.remove(0);
            }
            counts[3]++;
        }
    }

    private static final class CannotBe extends RuntimeException {
        private static final long serialVersionUID = 1L;
    }

    /** One MINOR, on a world that may be spoilt if it can't be. */
    private final class Minor {
        final World w;
        final int[] counts = new int[5];
        final List<Thing> moved = new ArrayList<>();
        int survivor = 0;
        int old;

        Minor(World w) {
            this.w = w;
            old = w.cells(2);
        }

        void move(Thing t, Set<Thing> wasYoung) {
            if (t == null || !wasYoung.contains(t) || moved.contains(t)) {
                return;
            }
            t.age++;
            if (t.age < rules[3] && survivor + t.cells() <= rules[1]) {
                t.space = 1;
                t.place = survivor;
                survivor += t.cells();
            } else {
                if (old + t.cells() > rules[2]) {
                    throw new CannotBe();
                }
                t.space = 2;
                t.place = old;
                old += t.cells();
                counts[1]++;
                for (int f = 0; f < t.fields.length; f++) {
                    if (t.fields[f] != null && !t.fields[f].old()) {
                        w.remembered.add(new int[] {t.number, f});
                    }
                }
            }
            moved.add(t);
            counts[0]++;
        }

        void follow(int from, Set<Thing> wasYoung) {
            for (int i = from; i < moved.size(); i++) {
                for (Thing t : moved.get(i).strong()) {
                    move(t, wasYoung);
                }
            }
        }

        void go() {
            Set<Thing> wasYoung = new HashSet<>();
            for (Thing t : w.things.values()) {
                if (!t.old()) {
                    wasYoung.add(t);
                }
            }
            List<int[]> rememberedThen = new ArrayList<>(w.remembered);
            for (Thing t : w.roots) {
                move(t, wasYoung);
            }
            for (Thing t : w.ends) {
                move(t, wasYoung);
            }
            for (int[] e : rememberedThen) {
                Thing t = w.things.get(e[0]);
                if (!(t.kind == 1 && e[1] == 0)) {
                    move(t.fields[e[1]], wasYoung);
                }
            }
            follow(0, wasYoung);
            Set<Thing> first = new HashSet<>(moved);
            for (Thing t : w.things.values()) {
                boolean stays = !wasYoung.contains(t) || first.contains(t);
                if (t.kind == 1 && stays && t.fields[0] != null && wasYoung.contains(t.fields[0])
                    && !first.contains(t.fields[0])) {
                    w.lose(t, counts);
                }
            }
            List<Thing> lasting = new ArrayList<>();
            for (Thing t : w.things.values()) {
                if (t.kind == 2 && wasYoung.contains(t) && !first.contains(t)) {
                    lasting.add(t);
                }
            }
            w.ends.addAll(lasting);
            counts[4] += lasting.size();
            for (Thing t : lasting) {
                int from = moved.size();
                move(t, wasYoung);
                follow(from, wasYoung);
            }
            for (Thing t : w.things.values()) {
                if (t.kind == 1 && moved.contains(t) && !first.contains(t) && t.fields[0] != null
                    && wasYoung.contains(t.fields[0]) && !moved.contains(t.fields[0])) {
                    w.lose(t, counts);
                }
            }
            for (Thing t : wasYoung) {
                if (!moved.contains(t)) {
                    w.things.remove(t.number);
                    counts[2]++;
                }
            }
            w.remembered.removeIf(e -> !w.isSo(e));
            w.inUse = 1 - w.inUse;
            w.ever[1]++;
            for (int i = 0; i < 5; i++) {
                w.ever[3 + i] += counts[i];
            }
        }
    }

    /** The counts of a MINOR on this very world; null: it can't be, and the world is spoilt. */
    private int[] minorOn(World w) {
        Minor minor = new Minor(w);
        try {
            minor.go();
        } catch (CannotBe e) {
            return null;
        }
        return minor.counts;
    }

    private static int[] majorOn(World w) {
        int[] counts = new int[5];
        Set<Thing> first = w.reached(-1);
        for (Thing t : w.things.values()) {
            if (t.kind == 1 && first.contains(t) && t.fields[0] != null && !first.contains(t.fields[0])) {
                w.lose(t, counts);
            }
        }
        List<Thing> lasting = new ArrayList<>();
        for (Thing t : w.things.values()) {
            if (t.kind == 2 && !first.contains(t)) {
                lasting.add(t);
            }
        }
        w.ends.addAll(lasting);
        counts[4] = lasting.size();
        Set<Thing> all = new HashSet<>(first);
        all.addAll(w.closure(lasting));
        for (Thing t : w.things.values()) {
            if (t.kind == 1 && all.contains(t) && !first.contains(t) && t.fields[0] != null
                && !all.contains(t.fields[0])) {
                w.lose(t, counts);
            }
        }
        List<Thing> old = new ArrayList<>();
        for (Thing t : new ArrayList<>(w.things.values())) {
            if (t.old()) {
                if (all.contains(t)) {
                    old.add(t);
                } else {
                    w.things.remove(t.number);
                    counts[2]++;
                }
            } else if (!all.contains(t)) {
                t.fields = new Thing[t.fields.length];
            }
        }
        old.sort((s, t) -> Integer.compare(s.place, t.place));
        int next = 0;
        for (Thing t : old) {
            if (t.place != next) {
                counts[0]++;
            }
            t.place = next;
            next += t.cells();
        }
        w.remembered.removeIf(e -> !w.isSo(e));
        w.ever[2]++;
        for (int i = 2; i < 5; i++) {
            w.ever[3 + i] += counts[i];
        }
        return counts;
    }

    private static final int NONE = -1;
    private static final int HIDDEN = -1000000;

    String tape = "";
    List<int[][]> scripts = new ArrayList<>();
    int[] rules;
    World world;
    World image;
    List<World> past = new ArrayList<>();
    int[] status = new int[4];

    int feed(int a, int b, int c, int d, int e) {
        StringBuilder more = new StringBuilder(tape);
        for (int word : new int[] {a, b, c, d, e}) {
            for (int k = 3; k >= 0; k--) {
                int sign = word >> 8 * k & 255;
                if (sign != 0) {
                    more.append((char) sign);
                }
            }
        }
        if (more.length() > 240) {
            return NONE;
        }
        tape = more.toString();
        return tape.length();
    }

    boolean end(int n) {
        if (n < 0 || n > tape.length()) {
            return false;
        }
        tape = tape.substring(0, n);
        return true;
    }

    /** Signs without blanks, with the place of each; runs of digits are one sign each. */
    private List<int[]> signs() {
        List<int[]> signs = new ArrayList<>();
        int i = 0;
        while (i < tape.length()) {
            char c = tape.charAt(i);
            if (c == ' ') {
                i++;
            } else if (c >= '0' && c <= '9') {
                int from = i;
                while (i < tape.length() && tape.charAt(i) >= '0' && tape.charAt(i) <= '9') {
                    i++;
                }
                signs.add(new int[] {'0', from, i});
            } else {
                signs.add(new int[] {c, i, i + 1});
                i++;
            }
        }
        signs.add(new int[] {0, tape.length(), tape.length()});
        return signs;
    }

    private int numberFault(int[] sign, int low, int high) {
        if (sign[0] != '0') {
            return sign[1];
        }
        if (sign[2] - sign[1] > 3) {
            return sign[1] + 3;
        }
        int value = Integer.parseInt(tape.substring(sign[1], sign[2]));
        return value < low || value > high ? sign[2] - 1 : NONE;
    }

    private int valueOf(int[] sign) {
        return Integer.parseInt(tape.substring(sign[1], sign[2]));
    }

    private int heapFault(int[] into) {
        int[] low = {8, 4, 16, 1};
        int[] high = {64, 32, 128, 5};
        int[] usual = {24, 8, 48, 2};
        System.arraycopy(usual, 0, into, 0, 4);
        List<int[]> signs = signs();
        if (signs.get(0)[0] != 'h') {
            return signs.get(0)[1];
        }
        String left = "esoa";
        for (int i = 1; signs.get(i)[0] != 0; i += 2) {
            int letter = signs.get(i)[0];
            if (left.indexOf(letter) < 0 || letter == '.') {
                return signs.get(i)[1];
            }
            int item = "esoa".indexOf(letter);
            left = left.replace((char) letter, '.');
            int wrong = numberFault(signs.get(i + 1), low[item], high[item]);
            if (wrong != NONE) {
                return wrong;
            }
            into[item] = valueOf(signs.get(i + 1));
        }
        return NONE;
    }

    private int scriptFault(List<int[]> into) {
        int[] numbers = {4, 3, 3, 1, 0, 0, 1};
        List<int[]> signs = signs();
        int i = 0;
        while (true) {
            int sort = signs.get(i)[0] == 0 ? -1 : "nwlxmje".indexOf(signs.get(i)[0]);
            if (sort < 0) {
                return signs.get(i)[1];
            }
            i++;
            int[] step = {sort, -1, -1, -1, -1};
            for (int k = 1; k <= numbers[sort]; k++) {
                if (k > 1) {
                    if (signs.get(i)[0] != ',') {
                        return signs.get(i)[1];
                    }
                    i++;
                }
                int wrong = numberFault(signs.get(i), 0, 999);
                if (wrong != NONE) {
                    return wrong;
                }
                step[k] = valueOf(signs.get(i));
                i++;
            }
            into.add(step);
            if (signs.get(i)[0] == 0) {
                return NONE;
            }
            if (signs.get(i)[0] != ';' || into.size() == 16) {
                return signs.get(i)[1];
            }
            i++;
        }
    }

    int fault(int sort) {
        if (sort == 0) {
            return heapFault(new int[4]);
        }
        return sort == 1 ? scriptFault(new ArrayList<>()) : -2;
    }

    int text(int sort) {
        if (sort == 0) {
            int[] read = new int[4];
            if (heapFault(read) != NONE) {
                return NONE;
            }
            tape = "";
            rules = read;
            world = new World();
            image = null;
            past.clear();
            return rules[0] + 2 * rules[1] + rules[2];
        }
        List<int[]> steps = new ArrayList<>();
        if (sort != 1 || scripts.size() == 4 || scriptFault(steps) != NONE) {
            return NONE;
        }
        tape = "";
        scripts.add(steps.toArray(new int[0][]));
        return scripts.size() - 1;
    }

    int rule(int what) {
        return world == null || what < 0 || what > 3 ? NONE : rules[what];
    }

    private static int numberOf(Thing t) {
        return t == null ? 0 : t.number;
    }

    private static boolean isRoot(int r) {
        return r >= 0 && r < 8;
    }

    private Thing get(int number) {
        return world == null ? null : world.things.get(number);
    }

    int root(int root) {
        return world == null || !isRoot(root) ? NONE : numberOf(world.roots[root]);
    }

    int thing(int number, int what) {
        Thing t = get(number);
        if (t == null || what < 0 || what > 7) {
            return Check.THROWN;
        }
        int[] all = {t.space, t.place, t.kind, t.fields.length, t.data, t.age,
            world.reached(-1).contains(t) ? 1 : 0, world.ends.contains(t) ? 1 : 0};
        return all[what];
    }

    int field(int number, int field) {
        Thing t = get(number);
        return t == null || field < 0 || field >= t.fields.length ? NONE : numberOf(t.fields[field]);
    }

    int at(int space, int place) {
        if (world != null) {
            for (Thing t : world.things.values()) {
                for (int cell = 0; cell < t.cells(); cell++) {
                    if (t.space == space && t.place + cell == place) {
                        return t.number;
                    }
                }
            }
        }
        return NONE;
    }

    /** An answer of an ACT on this very world, or -1 - STATUS; then the world may be spoilt. */
    private int actOn(World w, int[] told) {
        switch (told[0]) {
            case 0: return madeOn(w, told);
            case 1: return linkedOn(w, told);
            case 2: return loadedOn(w, told);
            case 3: {
                if (!isRoot(told[1])) {
                    return -1;
                }
                int was = numberOf(w.roots[told[1]]);
                if (was == 0) {
                    return -3;
                }
                w.roots[told[1]] = null;
                return noted(w, 3, was, was);
            }
            case 4: {
                int[] counts = minorOn(w);
                return counts == null ? -4 : noted(w, 4, counts[2], counts[2]);
            }
            case 5: {
                int gone = majorOn(w)[2];
                return noted(w, 5, gone, gone);
            }
            case 6: {
                if (!isRoot(told[1]) && told[1] != 8) {
                    return -1;
                }
                if (w.ends.isEmpty()) {
                    return -3;
                }
                Thing t = w.ends.remove(0);
                t.kind = 0;
                if (told[1] != 8) {
                    w.roots[told[1]] = t;
                }
                return noted(w, 6, t.number, t.number);
            }
            default: {
                if (w.lost.isEmpty()) {
                    return -3;
                }
                int number = w.lost.remove(0);
                return noted(w, 7, number, number);
            }
        }
    }

    private static int noted(World w, int sort, int number, int answer) {
        w.log.add(new int[] {sort, number, w.cells()});
        if (w.log.size() > 60) {
            w.log.remove(0);
        }
        return answer;
    }

    private int madeOn(World w, int[] told) {
        if (!isRoot(told[1])) {
            return -1;
        }
        if (told[2] < 0 || told[2] > 2 || told[3] < 0 || told[3] > 4 || told[4] < 0 || told[4] > 999
            || (told[2] == 1 && told[3] == 0)) {
            return -2;
        }
        int cells = 3 + told[3];
        if (w.cells(0) + cells > rules[0]) {
            World tried = w.copy();
            if (minorOn(tried) == null) {
                majorOn(w);
            }
            if (minorOn(w) == null) {
                return -4;
            }
        }
        Thing t = new Thing();
        w.ever[0]++;
        t.number = w.ever[0];
        t.kind = told[2];
        t.fields = new Thing[told[3]];
        t.data = told[4];
        t.place = w.cells(0);
        w.things.put(t.number, t);
        w.roots[told[1]] = t;
        return noted(w, 0, t.number, t.number);
    }

    private int linkedOn(World w, int[] told) {
        if (!isRoot(told[1]) || w.roots[told[1]] == null) {
            return -1;
        }
        if (told[3] != 8 && (!isRoot(told[3]) || w.roots[told[3]] == null)) {
            return -1;
        }
        Thing t = w.roots[told[1]];
        int f = told[2];
        if (f < 0 || f >= t.fields.length) {
            return -2;
        }
        Thing was = t.fields[f];
        Thing now = told[3] == 8 ? null : w.roots[told[3]];
        if (was == now) {
            return -3;
        }
        t.fields[f] = now;
        w.remembered.removeIf(e -> !w.isSo(e));
        int[] entry = {t.number, f};
        if (w.isSo(entry) && !w.knows(t.number, f)) {
            w.remembered.add(entry);
        }
        return noted(w, 1, t.number, numberOf(was));
    }

    private int loadedOn(World w, int[] told) {
        if (!isRoot(told[1]) || !isRoot(told[2]) || w.roots[told[2]] == null) {
            return -1;
        }
        Thing t = w.roots[told[2]];
        if (told[3] < 0 || told[3] >= t.fields.length) {
            return -2;
        }
        int was = numberOf(w.roots[told[1]]);
        w.roots[told[1]] = t.fields[told[3]];
        return noted(w, 2, was, numberOf(t.fields[told[3]]));
    }

    private int act(boolean counted, int... told) {
        int answer = -1;
        if (world != null) {
            World next = world.copy();
            answer = actOn(next, told);
            if (answer >= 0) {
                past.add(world);
                if (past.size() > 40) {
                    past.remove(0);
                }
                world = next;
                return answer;
            }
        }
        if (counted) {
            status[-1 - answer]++;
        }
        return NONE;
    }

    int make(int root, int kind, int fields, int data) {
        return act(true, 0, root, kind, fields, data);
    }

    int link(int root, int field, int other) {
        return act(true, 1, root, field, other);
    }

    int load(int root, int other, int field) {
        return act(true, 2, root, other, field);
    }

    int drop(int root) {
        return act(true, 3, root);
    }

    int minor() {
        return act(true, 4);
    }

    int major() {
        return act(true, 5);
    }

    int tell(int root) {
        return act(true, 6, root);
    }

    int ask() {
        return act(true, 7);
    }

    private long x;

    private int draw(int j) {
        x = 6364136223846793005L * x + 1442695040888963407L;
        return (int) ((x >>> 33) % j);
    }

    int years(int n, long seed) {
        if (world == null || n < 1 || n > 40) {
            return NONE;
        }
        x = seed;
        for (int i = 0; i < n; i++) {
            int[] told = new int[5];
            int sort = draw(10);
            if (sort < 4) {
                told[1] = draw(8);
                told[2] = draw(3);
                told[3] = draw(4) + 1;
                told[4] = draw(1000);
            } else if (sort < 7) {
                told[0] = 1;
                told[1] = draw(8);
                told[2] = draw(4);
                told[3] = draw(9);
            } else if (sort == 7) {
                told[0] = 2;
                told[1] = draw(8);
                told[2] = draw(8);
                told[3] = draw(4);
            } else if (sort == 8) {
                told[0] = 3;
                told[1] = draw(8);
            } else {
                told[0] = 4 + draw(3);
                if (told[0] == 6) {
                    told[1] = draw(9);
                }
            }
            act(false, told);
        }
        return world.cells();
    }

    int status(int what) {
        return what < 0 || what > 3 ? NONE : status[what];
    }

    int undo() {
        if (past.isEmpty()) {
            return NONE;
        }
        world = past.remove(past.size() - 1);
        return past.size();
    }

    int log(int i, int what) {
        if (world == null || i < 0 || i >= world.log.size() || what < 0 || what > 2) {
            return HIDDEN;
        }
        return world.log.get(world.log.size() - 1 - i)[what];
    }

    int remembered(int i, int what) {
        if (world == null) {
            return NONE;
        }
        if (i == NONE) {
            return world.remembered.size();
        }
        return i < 0 || i >= world.remembered.size() || what < 0 || what > 1 ? NONE : world.remembered.get(i)[what];
    }

    int line(int line, int i) {
        if (world == null || line < 0 || line > 1) {
            return NONE;
        }
        List<Integer> told = new ArrayList<>(world.lost);
        if (line == 0) {
            told.clear();
            for (Thing t : world.ends) {
                told.add(t.number);
            }
        }
        if (i == NONE) {
            return told.size();
        }
        return i < 0 || i >= told.size() ? NONE : told.get(i);
    }

    int would(boolean major, int what) {
        if (world == null || what < 0 || what > 4) {
            return NONE;
        }
        World w = world.copy();
        int[] counts = major ? majorOn(w) : minorOn(w);
        return counts == null ? NONE : counts[what];
    }

    /** The least way to each object, found by making all of them longer until none gets less. */
    int path(int number, int i) {
        Thing goal = get(number);
        if (goal == null) {
            return NONE;
        }
        Map<Thing, List<Integer>> least = new HashMap<>();
        for (int r = 0; r < 8; r++) {
            if (world.roots[r] != null) {
                better(least, world.roots[r], List.of(r));
            }
        }
        boolean again = true;
        while (again) {
            again = false;
            for (Thing t : world.things.values()) {
                for (int f = t.kind == 1 ? 1 : 0; least.containsKey(t) && f < t.fields.length; f++) {
                    if (t.fields[f] != null) {
                        List<Integer> way = new ArrayList<>(least.get(t));
                        way.add(f);
                        again |= better(least, t.fields[f], way);
                    }
                }
            }
        }
        List<Integer> way = least.get(goal);
        if (way == null) {
            return NONE;
        }
        if (i == NONE) {
            return way.size() - 1;
        }
        return i < 0 || i >= way.size() ? NONE : way.get(i);
    }

    private static boolean better(Map<Thing, List<Integer>> least, Thing t, List<Integer> way) {
        List<Integer> was = least.get(t);
        boolean less = was == null || way.size() < was.size();
        if (was != null && way.size() == was.size()) {
            int k = 0;
            while (k < way.size() && way.get(k).equals(was.get(k))) {
                k++;
            }
            less = k < way.size() && way.get(k) < was.get(k);
        }
        if (less) {
            least.put(t, way);
        }
        return less;
    }

    int alone(int root, int what) {
        if (world == null || !isRoot(root) || world.roots[root] == null || what < 0 || what > 1) {
            return NONE;
        }
        Set<Thing> all = world.reached(-1);
        all.removeAll(world.reached(root));
        int cells = 0;
        for (Thing t : all) {
            cells += t.cells();
        }
        return what == 0 ? all.size() : cells;
    }

    int holders(int number) {
        Thing goal = get(number);
        if (goal == null) {
            return NONE;
        }
        int n = 0;
        for (Thing t : world.roots) {
            n += t == goal ? 1 : 0;
        }
        for (Thing t : world.reached(-1)) {
            for (Thing u : t.strong()) {
                n += u == goal ? 1 : 0;
            }
        }
        return n;
    }

    int round(int number) {
        Thing start = get(number);
        if (start == null) {
            return NONE;
        }
        Set<Thing> level = new HashSet<>();
        level.add(start);
        for (int n = 1; n <= world.things.size(); n++) {
            Set<Thing> next = new HashSet<>();
            for (Thing t : level) {
                next.addAll(t.strong());
            }
            if (next.contains(start)) {
                return n;
            }
            level = next;
        }
        return NONE;
    }

    int room(int fields) {
        if (world == null || fields < 0 || fields > 4) {
            return NONE;
        }
        int n = 0;
        while (world.cells(0) + (n + 1) * (3 + fields) <= rules[0]) {
            n++;
        }
        return n;
    }

    boolean alike(int root, int other) {
        if (world == null || !isRoot(root) || !isRoot(other) || world.roots[root] == null
            || world.roots[other] == null) {
            return false;
        }
        return beside(world.roots[root], world.roots[other], new HashMap<>(), new HashMap<>());
    }

    private static boolean beside(Thing a, Thing b, Map<Thing, Thing> to, Map<Thing, Thing> fro) {
        if (a == null || b == null) {
            return a == b;
        }
        if (to.containsKey(a) || fro.containsKey(b)) {
            return to.get(a) == b && fro.get(b) == a;
        }
        to.put(a, b);
        fro.put(b, a);
        if (a.kind != b.kind || a.data != b.data || a.fields.length != b.fields.length) {
            return false;
        }
        for (int f = 0; f < a.fields.length; f++) {
            if (!beside(a.fields[f], b.fields[f], to, fro)) {
                return false;
            }
        }
        return true;
    }

    int until(int number) {
        if (get(number) == null) {
            return NONE;
        }
        World w = world.copy();
        int n = 0;
        while (w.things.containsKey(number)) {
            if (w.things.get(number).old()) {
                return n;
            }
            if (minorOn(w) == null) {
                return NONE;
            }
            n++;
        }
        return NONE;
    }

    int garbage(int space) {
        if (world == null || space < 0 || space > 2) {
            return NONE;
        }
        Set<Thing> reached = world.reached(-1);
        int cells = 0;
        for (Thing t : world.things.values()) {
            cells += t.space == space && !reached.contains(t) ? t.cells() : 0;
        }
        return cells;
    }

    int step(int script, int i, int what) {
        if (script < 0 || script >= scripts.size() || i < 0 || i >= scripts.get(script).length || what < 0 || what > 4) {
            return HIDDEN;
        }
        return scripts.get(script)[i][what];
    }

    int run(int script, int what) {
        if (world == null || script < 0 || script >= scripts.size() || what < 0 || what > 1) {
            return HIDDEN;
        }
        World w = world.copy();
        int done = 0;
        for (int[] step : scripts.get(script)) {
            World next = w.copy();
            if (actOn(next, step) < 0) {
                return what == 0 ? done : w.cells();
            }
            w = next;
            done++;
        }
        return what == 0 ? NONE : w.cells();
    }

    int perform(int script) {
        if (world == null || script < 0 || script >= scripts.size()) {
            return NONE;
        }
        int done = 0;
        for (int[] step : scripts.get(script)) {
            if (act(false, step) < 0) {
                return done;
            }
            done++;
        }
        return done;
    }

    int most(int what) {
        if (world == null || what < 0 || what > 15) {
            return HIDDEN;
        }
        if (what < 3) {
            return world.cells(what);
        }
        if (what > 4 && what < 13) {
            return world.ever[what - 5];
        }
        int age = 0;
        for (Thing t : world.things.values()) {
            age = Math.max(age, t.age);
        }
        int bits = 0;
        for (int r = 0; r < 8; r++) {
            bits += world.roots[r] == null ? 0 : 1 << r;
        }
        switch (what) {
            case 3: return world.things.size();
            case 4: return world.reached(-1).size();
            case 13: return age;
            case 14: return bits;
            default: return world.inUse;
        }
    }

    int image() {
        if (world == null) {
            return NONE;
        }
        image = world.copy();
        return world.cells();
    }

    int back() {
        if (image == null) {
            return NONE;
        }
        world = image.copy();
        past.clear();
        return world.cells();
    }

    int count(int what) {
        switch (what) {
            case 0: return world == null ? 0 : world.things.size();
            case 1: return scripts.size();
            case 2: return tape.length();
            case 3: return world == null ? 0 : world.log.size();
            case 4: return past.size();
            default: return HIDDEN;
        }
    }
}
