import java.util.Random;

/** All promises: runs of drawn calls, each answer compared with that of the plain model. */
public final class ModelTest {
    private static final int RUNS = 400;
    private static final int CALLS = 512;

    private static final int[] met = new int[13];

    private final Random random;
    private final NurseryHeap heap = new NurseryHeap();
    private final PlainModel model = new PlainModel();
    private final int[] weights = new int[10];
    private final int mostFields;
    private final int weakChance;
    private final int lastingChance;
    private final int run;
    private int call;

    private ModelTest(int run) {
        this.run = run;
        random = new Random(run);
        int[] most = {40, 60, 20, 16, 12, 6, 16, 4, 50, 6};
        for (int act = 0; act < most.length; act++) {
            weights[act] = below(most[act]) + (act < 2 ? 10 : 0);
        }
        mostFields = 1 + below(4);
        weakChance = below(7);
        lastingChance = below(3);
    }

    public static void main(String[] args) {
        for (int run = 0; run < RUNS && !Check.anyWrong(); run++) {
            ModelTest test = new ModelTest(run);
            test.go();
            for (int what = 0; what < 8; what++) {
                met[what] += Math.max(0, test.model.most(5 + what));
            }
            met[8] += test.model.status[3];
        }
        // Drawn runs that never meet a collection, an emptied link or an end would show nothing.
        String[] names = {"made", "minors", "majors", "moved", "to OLD", "gone", "emptied", "behind ENDS", "no room",
            "alike", "remembered", "ways of two fields", "rounds of two fields"};
        for (int what = 0; what < names.length; what++) {
            System.out.println(names[what] + ": " + met[what]);
            Check.due("enough " + names[what], met[what] > RUNS, true);
        }
        Check.finish();
    }

    private void go() {
        if (random.nextInt(8) > 0) {
            feedText(0, heapText());
        }
        for (call = 0; call < CALLS && !Check.anyWrong(); call++) {
            doOne();
            askSome();
            if (call % 64 == 63) {
                askAll();
            }
        }
    }

    private void due(String what, long got, long want) {
        Check.due("run " + run + ", call " + call + ": " + what, got, want);
    }

    private int below(int n) {
        return random.nextInt(n);
    }

    /** Mostly 0 .. n - 1, now and then out of bounds. */
    private int near(int n) {
        int chance = below(60);
        if (chance > 2) {
            return below(n);
        }
        return chance == 0 ? -1 : chance == 1 ? n : random.nextInt();
    }

    private int rootLinked() {
        int root = below(8);
        for (int i = 0; i < 8 && model.root(root) == 0; i++) {
            root = (root + 1) % 8;
        }
        return below(20) == 0 ? near(8) : root;
    }

    private int number() {
        int made = Math.max(0, model.most(5));
        if (below(30) == 0) {
            return near(made + 2);
        }
        return Math.max(1, made - below(Math.min(made + 1, 40)));
    }

    private String heapText() {
        StringBuilder text = new StringBuilder("h");
        if (below(4) > 0) {
            text.append('e').append(8 + below(below(2) == 0 ? 20 : 57));
        }
        if (below(4) > 0) {
            text.append(" s").append(4 + below(below(2) == 0 ? 10 : 29));
        }
        if (below(4) > 0) {
            text.append('o').append(16 + below(below(2) == 0 ? 20 : 113));
        }
        if (below(4) > 0) {
            text.append(" a ").append(1 + below(5));
        }
        return text.toString();
    }

    private String scriptText() {
        StringBuilder text = new StringBuilder();
        int steps = 1 + below(16);
        for (int i = 0; i < steps; i++) {
            text.append(i == 0 ? "" : ";");
            switch (below(10)) {
                case 0: case 1: case 2: case 3:
                    text.append('n').append(below(8)).append(',').append(below(3)).append(',');
                    text.append(1 + below(4)).append(',').append(below(3));
                    break;
                case 4: case 5:
                    text.append('w').append(below(8)).append(',').append(below(3)).append(',').append(below(9));
                    break;
                case 6:
                    text.append('l').append(below(8)).append(", ").append(below(8)).append(',').append(below(3));
                    break;
                case 7:
                    text.append('x').append(below(8));
                    break;
                case 8:
                    text.append(below(2) == 0 ? 'm' : 'j');
                    break;
                default:
                    text.append("e ").append(below(9));
            }
        }
        return text.substring(0, Math.min(240, text.length()));
    }

    private void feedTape(String text) {
        for (int from = 0; from < text.length(); from += 20) {
            int[] w = new int[5];
            for (int i = 0; i < 20 && from + i < text.length(); i++) {
                w[i / 4] |= text.charAt(from + i) << (24 - i % 4 * 8);
            }
            due("feed", heap.feed(w[0], w[1], w[2], w[3], w[4]), model.feed(w[0], w[1], w[2], w[3], w[4]));
        }
    }

    private void feedText(int sort, String text) {
        due("end", heap.end(0) ? 1 : 0, model.end(0) ? 1 : 0);
        feedTape(text);
        due("fault of '" + text + "'", heap.fault(sort), model.fault(sort));
        due("text", heap.text(sort), model.text(sort));
    }

    private String spoilt(String text) {
        StringBuilder spoilt = new StringBuilder(text);
        String signs = "hesoanwlxmj0123456789,; .\u00ff";
        for (int i = below(3); i >= 0; i--) {
            int at = below(spoilt.length() + 1);
            int how = below(3);
            if (how == 0 && at < spoilt.length()) {
                spoilt.deleteCharAt(at);
            } else if (how == 1 && at < spoilt.length()) {
                spoilt.setCharAt(at, signs.charAt(below(signs.length())));
            } else {
                spoilt.insert(at, signs.charAt(below(signs.length())));
            }
        }
        return spoilt.toString();
    }

    /** Which act comes next, by the weights of this run: so that runs differ in what they do often. */
    private int chosenAct() {
        int sum = 0;
        for (int weight : weights) {
            sum += weight;
        }
        int left = below(sum);
        int act = 0;
        while (left >= weights[act]) {
            left -= weights[act];
            act++;
        }
        return act;
    }

    private int chosenKind() {
        int chance = below(10);
        if (chance < weakChance) {
            return 1;
        }
        return chance < weakChance + lastingChance ? 2 : near(40) < 39 ? 0 : near(3);
    }

    /** A new object linked to one of few others, so that ways get long and weak links lose what they are linked to. */
    private void chainOne() {
        int root = below(3);
        int kind = chosenKind();
        int fields = 1 + below(mostFields);
        due("make", heap.make(root, kind, fields, 0), model.make(root, kind, fields, 0));
        int field = below(fields);
        int other = (root + 1 + below(2)) % 3;
        due("link", heap.link(root, field, other), model.link(root, field, other));
        if (below(4) == 0) {
            due("drop", heap.drop(other), model.drop(other));
        }
    }

    private void doOne() {
        switch (chosenAct()) {
            case 0: {
                int root = below(10) == 0 ? near(8) : below(8);
                int kind = chosenKind();
                int fields = near(mostFields + 1);
                int data = below(40) == 0 ? near(1000) : below(2);
                due("make", heap.make(root, kind, fields, data), model.make(root, kind, fields, data));
                break;
            }
            case 1: {
                int root = rootLinked();
                int field = near(Math.max(1, mostFields));
                int other = below(6) == 0 ? near(9) : rootLinked();
                due("link", heap.link(root, field, other), model.link(root, field, other));
                break;
            }
            case 2: {
                int root = near(8);
                int other = rootLinked();
                int field = near(3);
                due("load", heap.load(root, other, field), model.load(root, other, field));
                break;
            }
            case 3: {
                int root = rootLinked();
                due("drop", heap.drop(root), model.drop(root));
                break;
            }
            case 4: due("minor", heap.minor(), model.minor()); break;
            case 5: due("major", heap.major(), model.major()); break;
            case 6: {
                int root = below(2) == 0 ? 8 : near(9);
                due("tell", heap.tell(root), model.tell(root));
                break;
            }
            case 7: due("ask", heap.ask(), model.ask()); break;
            case 8: chainOne(); break;
            default: doRare();
        }
    }

    private void doRare() {
        switch (below(9)) {
            case 0: case 1: {
                int times = below(12);
                for (int i = 0; i < times; i++) {
                    due("undo", heap.undo(), model.undo());
                }
                break;
            }
            case 2:
                due("image", heap.image(), model.image());
                break;
            case 3:
                due("back", heap.back(), model.back());
                break;
            case 4: {
                int n = below(5) == 0 ? near(41) : 1 + below(40);
                long seed = below(2) == 0 ? below(100) : random.nextLong();
                due("years", heap.years(n, seed), model.years(n, seed));
                break;
            }
            case 5:
                feedText(1, scriptText());
                break;
            case 6: {
                int script = near(4);
                due("run 0", heap.run(script, 0), model.run(script, 0));
                due("run 1", heap.run(script, 1), model.run(script, 1));
                due("perform", heap.perform(script), model.perform(script));
                break;
            }
            case 7:
                spoiltTexts();
                break;
            default:
                if (below(8) == 0) {
                    feedText(0, heapText());
                }
        }
    }

    private void spoiltTexts() {
        due("end", heap.end(0) ? 1 : 0, model.end(0) ? 1 : 0);
        feedTape(spoilt(below(2) == 0 ? heapText() : scriptText()));
        due("fault 0", heap.fault(0), model.fault(0));
        due("fault 1", heap.fault(1), model.fault(1));
        int n = near(Math.max(1, model.tape.length()));
        due("end", heap.end(n) ? 1 : 0, model.end(n) ? 1 : 0);
        due("fault 0", heap.fault(0), model.fault(0));
        due("fault 1", heap.fault(1), model.fault(1));
    }

    private void askSome() {
        for (int i = 0; i < 4; i++) {
            askOne(below(20));
        }
        for (int what = 0; what < 16; what++) {
            if (what != 4) {
                due("most " + what, heap.most(what), model.most(what));
            }
        }
    }

    private void askAll() {
        for (int i = 0; i < 20; i++) {
            for (int again = 0; again < 10; again++) {
                askOne(i);
            }
        }
        int made = Math.max(0, model.most(5));
        for (int number = Math.max(0, made - 150); number <= made + 1; number++) {
            for (int what = 0; what < 8; what++) {
                due("thing " + number + ", " + what, Check.thing(heap, number, what), model.thing(number, what));
            }
            for (int i = -1; i < 5; i++) {
                due("path " + number + ", " + i, heap.path(number, i), model.path(number, i));
            }
            due("round " + number, heap.round(number), model.round(number));
            due("holders " + number, heap.holders(number), model.holders(number));
            due("until " + number, heap.until(number), model.until(number));
            met[11] += model.path(number, -1) > 1 ? 1 : 0;
            met[12] += model.round(number) > 1 ? 1 : 0;
            for (int field = 0; field < 4; field++) {
                due("field " + number + ", " + field, heap.field(number, field), model.field(number, field));
            }
        }
    }

    private void askOne(int which) {
        int number = number();
        int what = near(9);
        int i = near(12);
        int root = rootLinked();
        int other = rootLinked();
        switch (which) {
            case 0: due("thing " + number + " " + what, Check.thing(heap, number, what), model.thing(number, what)); break;
            case 1: due("field " + number, heap.field(number, what), model.field(number, what)); break;
            case 2: what = near(3); i = near(70); due("at " + what + " " + i, heap.at(what, i), model.at(what, i)); break;
            case 3: what = near(4); due("status", heap.status(what), model.status(what)); break;
            case 4: i = near(64); what = near(3); due("log", heap.log(i, what), model.log(i, what)); break;
            case 5: askRemembered(); break;
            case 6: askLines(); break;
            case 7: what = near(5); due("would minor " + what, heap.would(false, what), model.would(false, what)); break;
            case 8: what = near(5); due("would major " + what, heap.would(true, what), model.would(true, what)); break;
            case 9: i = below(6) - 1;  due("path " + number + " " + i, heap.path(number, i), model.path(number, i)); break;
            case 10: what = near(2); due("alone", heap.alone(root, what), model.alone(root, what)); break;
            case 11: due("holders " + number, heap.holders(number), model.holders(number)); break;
            case 12: due("round " + number, heap.round(number), model.round(number)); break;
            case 13: what = near(5); due("room", heap.room(what), model.room(what)); break;
            case 14: met[9] += root != other && model.alike(root, other) ? 1 : 0;
                due("alike", heap.alike(root, other) ? 1 : 0, model.alike(root, other) ? 1 : 0); break;
            case 15: due("until " + number, heap.until(number), model.until(number)); break;
            case 16: what = near(3); due("garbage", heap.garbage(what), model.garbage(what)); break;
            case 17: other = near(4); i = near(16); what = near(5);
                due("step", heap.step(other, i, what), model.step(other, i, what)); break;
            case 18: what = near(6); due("count", heap.count(what), model.count(what)); break;
            default: root = near(8); due("root", heap.root(root), model.root(root));
                what = near(4); due("rule", heap.rule(what), model.rule(what));
                due("most 4", heap.most(4), model.most(4));
        }
    }

    private void askRemembered() {
        int length = model.remembered(-1, 0);
        met[10] += Math.max(0, length - 1);
        due("remembered", heap.remembered(-1, 0), length);
        for (int i = -2; i <= length; i++) {
            for (int what = -1; what < 3; what++) {
                due("remembered " + i + " " + what, heap.remembered(i, what), model.remembered(i, what));
            }
        }
    }

    private void askLines() {
        for (int line = -1; line < 3; line++) {
            int length = model.line(line, -1);
            for (int i = -2; i <= length; i++) {
                due("line " + line + " " + i, heap.line(line, i), model.line(line, i));
            }
        }
    }
}
