import java.util.ArrayList;
import java.util.List;

/**
 * All that the face shows of an object but STATUS, as calls: two objects that answer them alike are in one state.
 * The quiet ones change nothing, so they may be asked in parts; the others go on from the state and are asked at once.
 */
final class Looks {
    private static final int NUMBERS = 24;

    private Looks() {
    }

    static List<String> quiet() {
        List<String> calls = new ArrayList<>();
        rows(calls, "count", 0, 4);
        rows(calls, "rule", 0, 3);
        rows(calls, "root", 0, 7);
        rows(calls, "most", 0, 15);
        rows(calls, "fault", 0, 1);
        for (int i = -1; i < 41; i++) {
            calls.add("line(1, " + i + ")");
        }
        for (int i = -1; i < 12; i++) {
            calls.add("line(0, " + i + ")");
            calls.add("remembered(" + i + ", 0)");
            calls.add("remembered(" + i + ", 1)");
        }
        for (int i = 0; i < 61; i++) {
            for (int what = 0; what < 3; what++) {
                calls.add("log(" + i + ", " + what + ")");
            }
        }
        for (int number = 1; number <= NUMBERS; number++) {
            for (int what = 0; what < 8; what++) {
                calls.add("thing(" + number + ", " + what + ")");
            }
            for (int field = 0; field < 4; field++) {
                calls.add("field(" + number + ", " + field + ")");
            }
        }
        for (int place = 0; place < 64; place++) {
            for (int space = 0; space < 3; space++) {
                calls.add("at(" + space + ", " + place + ")");
            }
        }
        for (int script = 0; script < 4; script++) {
            for (int i = 0; i < 16; i++) {
                for (int what = 0; what < 5; what++) {
                    calls.add("step(" + script + ", " + i + ", " + what + ")");
                }
            }
        }
        return calls;
    }

    /** Each list is asked of an object of its own: what can be UNDONE, the IMAGE, the TAPE, how it goes on. */
    static List<List<String>> loud() {
        List<List<String>> all = new ArrayList<>();
        List<String> back = new ArrayList<>();
        for (int i = 0; i < 41; i++) {
            back.add("undo()");
            rows(back, "most", 0, 3);
            back.add("root(0)");
        }
        all.add(back);
        List<String> image = new ArrayList<>();
        image.add("back()");
        rows(image, "most", 0, 15);
        rows(image, "root", 0, 7);
        rows(image, "count", 0, 4);
        all.add(image);
        all.add(goingOn());
        for (int sort = 0; sort < 2; sort++) {
            List<String> taken = new ArrayList<>();
            taken.add("text(" + sort + ")");
            rows(taken, "rule", 0, 3);
            rows(taken, "count", 0, 4);
            taken.add("step(0, 0, 0)");
            all.add(taken);
        }
        return all;
    }

    /** Acts of each sort: what is held where nobody looks now would be seen behind them. */
    private static List<String> goingOn() {
        List<String> calls = new ArrayList<>();
        String[] acts = {"make(6, 1, 2, 7)", "make(7, 2, 1, 8)", "link(6, 0, 7)", "link(6, 1, 0)", "drop(7)", "minor()",
            "make(7, 0, 3, 9)", "link(0, 0, 7)", "minor()", "major()", "ask()", "tell(5)", "load(4, 6, 1)", "years(3, 1)"};
        for (String act : acts) {
            calls.add(act);
            rows(calls, "most", 0, 15);
            for (int what = 0; what < 3; what++) {
                calls.add("log(0, " + what + ")");
                calls.add("log(1, " + what + ")");
            }
            calls.add("line(0, 0)");
            calls.add("line(1, 0)");
            calls.add("remembered(0, 0)");
            calls.add("remembered(0, 1)");
        }
        return calls;
    }

    private static void rows(List<String> calls, String name, int first, int last) {
        for (int what = first; what <= last; what++) {
            calls.add(name + "(" + what + ")");
        }
    }
}
