import java.io.IOException;
import java.nio.file.Files;
import java.nio.file.Path;
import java.util.ArrayList;
import java.util.List;
import java.util.stream.Collectors;
import java.util.stream.Stream;

/**
 * Promises 1 to 40 and the Terms, sentence by sentence: runs of calls told in src/test/runs, each under the words of
 * the document that it tests. README.md tells how a run is written.
 */
public final class BoundaryTest {
    private final Sentences sentences;
    private final List<String> quiet = Looks.quiet();
    private final List<List<String>> loud = Looks.loud();
    private List<String> done = new ArrayList<>();
    private Calls calls = new Calls();
    private String told = "";
    private String where = "";

    private BoundaryTest(Sentences sentences) {
        this.sentences = sentences;
    }

    public static void main(String[] args) throws IOException {
        Path runs = Path.of(System.getProperty("runs", "src/test/runs"));
        Path document = Path.of(System.getProperty("document", "../shared/DOC.md"));
        BoundaryTest test = new BoundaryTest(Files.exists(document) ? new Sentences(document) : null);
        List<Path> files;
        try (Stream<Path> found = Files.list(runs)) {
            files = found.filter(file -> file.toString().endsWith(".txt")).sorted().collect(Collectors.toList());
        }
        for (Path file : files) {
            test.runFile(file);
        }
        test.nothingIsLeftOut();
        Check.finish();
    }

    private void runFile(Path file) throws IOException {
        List<String> rows = Files.readAllLines(file);
        for (int i = 0; i < rows.size(); i++) {
            String row = rows.get(i).trim();
            where = file.getFileName() + ":" + (i + 1) + " ";
            if (!row.isEmpty() && !row.startsWith("//")) {
                try {
                    runRow(row);
                } catch (IllegalArgumentException | IllegalStateException e) {
                    Check.due(where + told + ": '" + row + "' can't be run: " + e + " (0: no, 1: yes)", 0, 1);
                }
            }
        }
    }

    private void runRow(String row) {
        if (row.startsWith("promise ") || row.startsWith("terms: ") || row.startsWith("about: ")) {
            beginSentence(row);
        } else if (row.startsWith("constant ")) {
            String[] parts = row.split(" ");
            compare(parts[1], Calls.value(parts[1]), Calls.value(parts[3]));
        } else if (row.equals("new")) {
            beginObject();
        } else if (row.matches("\\d+ times .*")) {
            int times = Integer.parseInt(row.substring(0, row.indexOf(' ')));
            for (int i = 0; i < times; i++) {
                for (String part : row.substring(row.indexOf(" times ") + 7).split(";")) {
                    runRow(counted(part.trim(), i));
                }
            }
        } else if (row.startsWith("refused ")) {
            unchanged(row.substring(10), row.charAt(8));
        } else if (row.startsWith("apart ")) {
            unchanged(row.substring(6), '-');
        } else if (row.startsWith("undone ")) {
            undone(row.substring(7));
        } else if (row.startsWith("backed ")) {
            backed(row.substring(7));
        } else if (row.indexOf('"') >= 0) {
            runText(row);
        } else {
            runCall(row);
        }
    }

    private static String counted(String part, int i) {
        String plain = part;
        for (int more = 1; more < 10; more++) {
            plain = plain.replace("$+" + more, String.valueOf(i + more));
        }
        return plain.replace("$", String.valueOf(i));
    }

    private void beginSentence(String row) {
        beginObject();
        told = row;
        int colon = row.indexOf(": ");
        int part = Sentences.ABOUT;
        if (row.startsWith("promise ")) {
            part = Integer.parseInt(row.substring(8, colon));
        } else if (row.startsWith("terms: ")) {
            part = Sentences.TERMS;
        }
        if (sentences != null) {
            Check.due(where + "words of the document: " + row, sentences.name(part, row.substring(colon + 2)), true);
        }
    }

    private void beginObject() {
        calls = new Calls();
        done = new ArrayList<>();
    }

    /** heap "..", script "..", fault0 "..", fault1 "..": the TAPE has this text alone; tape "..": behind what it has. */
    private void runText(String row) {
        int open = row.indexOf('"');
        int close = row.lastIndexOf('"');
        String name = row.substring(0, open).trim();
        String text = row.substring(open + 1, close).replace("~", "\t");
        String want = row.substring(close + 1);
        if (!name.equals("tape")) {
            runCall("end(0)");
        }
        for (String feed : Calls.feeding(text)) {
            runCall(feed);
        }
        switch (name) {
            case "heap": runCall("text(0)" + want); break;
            case "script": runCall("text(1)" + want); break;
            case "fault0": runCall("fault(0)" + want); break;
            case "fault1": runCall("fault(1)" + want); break;
            case "tape": runCall("count(2)" + want); break;
            default: throw new IllegalArgumentException("no such row: " + row);
        }
    }

    private void runCall(String row) {
        int equal = row.indexOf(" = ");
        String call = callOf(row);
        done.add(call);
        long got = calls.make(call);
        if (equal >= 0) {
            compare(call, got, Calls.value(row.substring(equal + 3).trim()));
        }
    }

    private void compare(String call, long got, long want) {
        Check.due(where + told + ": " + call + " (" + Calls.shown(got) + ", due " + Calls.shown(want) + ")", got, want);
    }

    /** A call that changes nothing but STATUS: objects with and without it are compared by all that the face shows. */
    private void unchanged(String row, char status) {
        alikeBehind(List.of(), List.of(callOf(row)));
        long[] before = new long[4];
        for (int what = 0; what < 4; what++) {
            before[what] = calls.make("status(" + what + ")");
        }
        runCall(row);
        for (int what = 0; what < 4; what++) {
            long want = before[what] + (status == '0' + what ? 1 : 0);
            compare("status(" + what + ") behind " + callOf(row), calls.make("status(" + what + ")"), want);
        }
    }

    /** One ACT that is UNDONE: all is as it was. */
    private void undone(String row) {
        alikeBehind(List.of(), List.of(callOf(row), "undo()"));
        runCall(row);
        runCall("undo()");
    }

    /** ACTS behind an IMAGE, then BACK: all is as it was when the IMAGE was taken. */
    private void backed(String row) {
        List<String> with = new ArrayList<>(List.of("image()"));
        for (String part : row.split(";")) {
            with.add(part.trim());
        }
        with.add("back()");
        alikeBehind(List.of("image()", "back()"), with);
    }

    private static String callOf(String row) {
        int equal = row.indexOf(" = ");
        return equal < 0 ? row.trim() : row.substring(0, equal).trim();
    }

    private void alikeBehind(List<String> some, List<String> others) {
        int room = Calls.MOST - done.size() - Math.max(some.size(), others.size());
        for (int from = 0; from < quiet.size(); from += room) {
            alikeBehind(some, others, quiet.subList(from, Math.min(quiet.size(), from + room)));
        }
        for (List<String> looks : loud) {
            alikeBehind(some, others, looks.subList(0, Math.min(looks.size(), room)));
        }
    }

    private void alikeBehind(List<String> some, List<String> others, List<String> looks) {
        Calls without = again(some);
        Calls with = again(others);
        for (String look : looks) {
            long got = with.make(look);
            compare(look + " behind " + others, got, without.make(look));
        }
    }

    private Calls again(List<String> more) {
        Calls same = new Calls();
        for (String call : done) {
            same.make(call);
        }
        for (String call : more) {
            same.make(call);
        }
        return same;
    }

    private void nothingIsLeftOut() {
        if (sentences == null) {
            System.out.println("the document is not here: its words were not compared");
            return;
        }
        for (int part : sentences.parts()) {
            if (part == Sentences.ABOUT) {
                // It tells ahead, in other words, what the Terms tell.
                continue;
            }
            String left = sentences.unnamed(part);
            Check.due((part == Sentences.TERMS ? "Terms" : "promise " + part) + ", words without a test: " + left, left.isEmpty(), true);
        }
    }
}
