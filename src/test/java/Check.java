import java.util.NoSuchElementException;

/** What the tests share: answers compared with those that are due, and texts fed to a heap. */
final class Check {
    private static int wrong = 0;
    private static int looked = 0;

    private Check() {
    }

    static void due(String what, long got, long want) {
        looked++;
        if (got != want) {
            wrong++;
            if (wrong <= 50) {
                System.out.println(what + " answered " + got + ", due is " + want);
            }
        }
    }

    static void due(String what, boolean got, boolean want) {
        due(what, got ? 1 : 0, want ? 1 : 0);
    }

    /** thing(), with HIDDEN - 1 standing for its exception. */
    static int thing(NurseryHeap heap, int number, int what) {
        try {
            return heap.thing(number, what);
        } catch (NoSuchElementException e) {
            return NurseryHeap.HIDDEN - 1;
        }
    }

    static final int THROWN = NurseryHeap.HIDDEN - 1;

    /** Feeds a text of signs 1 to 255, twenty bytes a call, behind what the tape has. */
    static void feed(NurseryHeap heap, String text) {
        for (int from = 0; from < text.length(); from += 20) {
            int[] words = new int[5];
            for (int i = 0; i < 20 && from + i < text.length(); i++) {
                words[i / 4] |= text.charAt(from + i) << (24 - i % 4 * 8);
            }
            heap.feed(words[0], words[1], words[2], words[3], words[4]);
        }
    }

    static int text(NurseryHeap heap, int sort, String text) {
        heap.end(0);
        feed(heap, text);
        return heap.text(sort);
    }

    static int fault(NurseryHeap heap, int sort, String text) {
        heap.end(0);
        feed(heap, text);
        return heap.fault(sort);
    }

    static NurseryHeap heap(String text) {
        NurseryHeap heap = new NurseryHeap();
        text(heap, 0, text);
        return heap;
    }

    static boolean anyWrong() {
        return wrong > 0;
    }

    static void finish() {
        System.out.println(looked + " answers, " + wrong + " not as due");
        if (wrong > 0 || looked == 0) {
            System.exit(1);
        }
    }
}
