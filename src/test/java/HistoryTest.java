/** Promises 19 to 22, 35, 36 and 38 to 40: years, status, undoing, the log, scripts done, images, counts. */
public final class HistoryTest {
    private static long x;

    public static void main(String[] args) {
        years();
        yearsRefused();
        status();
        undo();
        undoAll();
        logIsSixty();
        log();
        run();
        perform();
        images();
        counts();
        Check.finish();
    }

    private static int draw(int sorts) {
        x = x * 6364136223846793005L + 1442695040888963407L;
        return (int) (x >>> 33) % sorts;
    }

    private static void yearByHand(NurseryHeap heap) {
        int sort = draw(10);
        if (sort < 4) {
            int root = draw(8);
            int kind = draw(3);
            int fields = 1 + draw(4);
            heap.make(root, kind, fields, draw(1000));
        } else if (sort < 7) {
            int root = draw(8);
            int field = draw(4);
            heap.link(root, field, draw(9));
        } else if (sort == 7) {
            int root = draw(8);
            int other = draw(8);
            heap.load(root, other, draw(4));
        } else if (sort == 8) {
            heap.drop(draw(8));
        } else {
            int rare = draw(3);
            if (rare == 0) {
                heap.minor();
            } else if (rare == 1) {
                heap.major();
            } else {
                heap.tell(draw(9));
            }
        }
    }

    private static void years() {
        long[] seeds = {0, 1, -1, 42, Long.MIN_VALUE, Long.MAX_VALUE, 123456789123456789L};
        for (long seed : seeds) {
            NurseryHeap one = Check.heap("he30s12o60a3");
            NurseryHeap other = Check.heap("he30s12o60a3");
            x = seed;
            for (int i = 0; i < 40; i++) {
                yearByHand(other);
            }
            Check.due("cells", one.years(40, seed), other.most(0) + other.most(1) + other.most(2));
            for (int what = 0; what < 16; what++) {
                Check.due("most " + what, one.most(what), other.most(what));
            }
            for (int what = 0; what < 5; what++) {
                Check.due("count " + what, one.count(what), what == 2 ? 0 : other.count(what));
            }
            for (int i = 0; i < 40; i++) {
                for (int what = 0; what < 3; what++) {
                    Check.due("log " + i, one.log(i, what), other.log(i, what));
                }
            }
            for (int what = 0; what < 4; what++) {
                Check.due("no STATUS", one.status(what), 0);
            }
            x = seed;
            NurseryHeap third = Check.heap("he30s12o60a3");
            yearByHand(third);
            NurseryHeap fourth = Check.heap("he30s12o60a3");
            fourth.years(1, seed);
            Check.due("one year", fourth.most(3), third.most(3));
        }
    }

    private static void yearsRefused() {
        NurseryHeap heap = new NurseryHeap();
        Check.due("no HEAP", heap.years(1, 1), -1);
        Check.text(heap, 0, "h");
        Check.due("out of bounds", heap.years(0, 1), -1);
        Check.due("out of bounds", heap.years(41, 1), -1);
        Check.due("out of bounds", heap.years(-1, 1), -1);
        for (int what = 0; what < 4; what++) {
            Check.due("no STATUS", heap.status(what), 0);
        }
        Check.due("nothing was done", heap.count(3), 0);
    }

    private static void status() {
        NurseryHeap heap = Check.heap("h");
        Check.due("no such what", heap.status(4), -1);
        Check.due("no such what", heap.status(-1), -1);
        heap.make(0, 0, 1, 1);
        heap.link(0, 0, 8);
        heap.link(0, 1, 8);
        heap.link(1, 0, 0);
        for (int what = 0; what < 3; what++) {
            Check.due("status " + what, heap.status(what), 1);
        }
        heap.image();
        heap.drop(5);
        heap.undo();
        heap.back();
        Check.due("not UNDONE, not in an IMAGE", heap.status(2), 2);
        heap.undo();
        heap.years(0, 0);
        heap.perform(3);
        heap.room(9);
        for (int what = 0; what < 4; what++) {
            Check.due("status " + what, heap.status(what), new int[] {1, 1, 2, 0}[what]);
        }
    }

    private static void undo() {
        NurseryHeap heap = new NurseryHeap();
        Check.due("no HEAP", heap.undo(), -1);
        Check.text(heap, 0, "h");
        Check.due("none", heap.undo(), -1);
        heap.make(0, 0, 1, 1);
        heap.make(1, 0, 1, 2);
        heap.link(0, 0, 1);
        heap.link(0, 0, 1);
        Check.due("what was refused is no ACT", heap.count(4), 3);
        Check.due("undo", heap.undo(), 2);
        Check.due("field", heap.field(1, 0), 0);
        Check.due("the LOG, too", heap.count(3), 2);
        Check.due("undo", heap.undo(), 1);
        Check.due("root", heap.root(1), 0);
        Check.due("MADE ever", heap.most(5), 1);
        Check.due("its number is free again", heap.make(2, 0, 0, 3), 2);
        Check.due("undo", heap.undo(), 1);
        Check.due("undo", heap.undo(), 0);
        Check.due("undo", heap.undo(), -1);
        Check.due("OBJECTS", heap.count(0), 0);
    }

    private static void undoAll() {
        NurseryHeap heap = Check.heap("he30s12o60a3");
        int[][] seen = new int[101][16];
        int done = 0;
        for (int i = 0; i < 100; i++) {
            int acts = heap.most(5) + heap.count(3);
            heap.years(1, i * 77L);
            if (heap.most(5) + heap.count(3) != acts) {
                done++;
            }
        }
        Check.due("many ACTS", done > 45, true);
        Check.due("the latest 40", heap.count(4), 40);
        NurseryHeap other = Check.heap("he30s12o60a3");
        for (int i = 0; i < 60; i++) {
            other.make(i % 8, 0, 1, i);
            for (int what = 0; what < 16; what++) {
                seen[i][what] = other.most(what);
            }
        }
        for (int left = 39; left >= 0; left--) {
            Check.due("undo", other.undo(), left);
            for (int what = 0; what < 16; what++) {
                Check.due("most " + what, other.most(what), seen[left + 19][what]);
            }
        }
        Check.due("undo", other.undo(), -1);
        Check.due("log", other.count(3), 20);
    }

    private static void logIsSixty() {
        NurseryHeap heap = Check.heap("h");
        for (int i = 0; i < 50; i++) {
            heap.make(0, 0, 0, i);
            heap.drop(0);
        }
        Check.due("the latest 60", heap.count(3), 60);
        Check.due("the last of them", heap.log(59, 1), 21);
        Check.due("no such one", heap.log(60, 0), -1000000);
        for (int i = 0; i < 40; i++) {
            heap.undo();
        }
        Check.due("the LOG as it was", heap.count(3), 60);
        Check.due("the LOG as it was", heap.log(59, 1), 1);
        Check.due("the LOG as it was", heap.log(0, 1), 30);
    }

    private static void log() {
        NurseryHeap heap = Check.heap("he24s8o48a2");
        heap.make(0, 0, 1, 1);
        heap.make(1, 0, 2, 2);
        heap.link(1, 1, 0);
        heap.load(0, 1, 0);
        heap.load(0, 1, 1);
        heap.drop(1);
        heap.minor();
        heap.major();
        int[][] want = {{5, 0, 4}, {4, 1, 4}, {3, 2, 9}, {2, 0, 9}, {2, 1, 9}, {1, 2, 9}, {0, 2, 9}, {0, 1, 4}};
        for (int i = 0; i < want.length; i++) {
            for (int what = 0; what < 3; what++) {
                Check.due("log " + i + ", " + what, heap.log(i, what), want[i][what]);
            }
        }
        Check.due("no such one", heap.log(8, 0), -1000000);
        Check.due("no such one", heap.log(-1, 0), -1000000);
        Check.due("no such what", heap.log(0, 3), -1000000);
        Check.due("no such what", heap.log(0, -1), -1000000);
    }

    private static void run() {
        NurseryHeap heap = new NurseryHeap();
        Check.text(heap, 1, "n0,0,1,1;n1,0,2,2;w0,0,1;m;x1;w0,0,8;j;m");
        Check.text(heap, 1, "n0,0,1,1;w0,0,8;m");
        Check.text(heap, 1, "n8,0,0,0;m");
        Check.due("no HEAP", heap.run(0, 0), -1000000);
        Check.text(heap, 0, "h");
        Check.due("all can be", heap.run(0, 0), -1);
        Check.due("cells", heap.run(0, 1), 4);
        Check.due("it is so", heap.run(1, 0), 1);
        Check.due("cells behind these", heap.run(1, 1), 4);
        Check.due("no such ROOT", heap.run(2, 0), 0);
        Check.due("cells", heap.run(2, 1), 0);
        Check.due("no such SCRIPT", heap.run(3, 0), -1000000);
        Check.due("no such SCRIPT", heap.run(-1, 0), -1000000);
        Check.due("no such what", heap.run(0, 2), -1000000);
        Check.due("no such what", heap.run(0, -1), -1000000);
        Check.due("nothing was done", heap.most(5), 0);
        Check.due("no STATUS", heap.status(0) + heap.status(1) + heap.status(2) + heap.status(3), 0);
    }

    private static void perform() {
        NurseryHeap heap = new NurseryHeap();
        Check.text(heap, 1, "n0,2,1,1;n1,0,2,2;w0,0,1;l3,0,0;x0;m;e5;e8;j");
        Check.due("no HEAP", heap.perform(0), -1);
        Check.text(heap, 0, "h");
        Check.due("no such SCRIPT", heap.perform(1), -1);
        Check.due("no such SCRIPT", heap.perform(-1), -1);
        Check.due("perform", heap.perform(0), 7);
        Check.due("ROOT 3", heap.root(3), 2);
        Check.due("ROOT 5", heap.root(5), 1);
        Check.due("each is an ACT", heap.count(4), 7);
        Check.due("log", heap.log(0, 0), 6);
        Check.due("no STATUS", heap.status(0) + heap.status(1) + heap.status(2) + heap.status(3), 0);
        Check.due("undo one of them", heap.undo(), 6);
        Check.due("ENDS again", heap.line(0, 0), 1);
        Check.text(heap, 1, "x3;m;x3");
        Check.due("perform", heap.perform(1), 2);
        Check.text(heap, 1, "j;m;j");
        Check.due("all of them", heap.perform(2), 3);
    }

    private static void images() {
        NurseryHeap heap = new NurseryHeap();
        Check.due("no HEAP", heap.image(), -1);
        Check.due("no HEAP", heap.back(), -1);
        Check.text(heap, 0, "h");
        Check.due("no IMAGE", heap.back(), -1);
        heap.make(0, 1, 1, 1);
        heap.make(1, 0, 0, 2);
        heap.link(0, 0, 1);
        Check.due("image", heap.image(), 7);
        heap.drop(1);
        heap.minor();
        heap.make(2, 0, 4, 3);
        Check.due("back", heap.back(), 7);
        Check.due("root", heap.root(1), 2);
        Check.due("field", heap.field(1, 0), 2);
        Check.due("LOST", heap.line(1, -1), 0);
        Check.due("the LOG, too", heap.count(3), 3);
        Check.due("MINORS", heap.most(6), 0);
        Check.due("SURVIVOR in use", heap.most(15), 0);
        Check.due("no ACT can be UNDONE", heap.undo(), -1);
        Check.due("no ACT can be UNDONE", heap.count(4), 0);
        heap.drop(0);
        Check.due("undo behind it", heap.undo(), 0);
        heap.drop(0);
        Check.due("back again", heap.back(), 7);
        Check.due("root", heap.root(0), 1);
        heap.drop(0);
        Check.due("another image", heap.image(), 7);
        heap.drop(1);
        heap.back();
        Check.due("the one ahead is no more", heap.root(0), 0);
        Check.due("root", heap.root(1), 2);
        Check.text(heap, 0, "h");
        Check.due("no IMAGE of this HEAP", heap.back(), -1);
    }

    private static void counts() {
        NurseryHeap heap = Check.heap("h");
        Check.text(heap, 1, "m");
        Check.feed(heap, "abc");
        heap.make(0, 0, 0, 1);
        heap.make(0, 0, 0, 1);
        heap.drop(0);
        heap.undo();
        for (int what = 0; what < 5; what++) {
            Check.due("count " + what, heap.count(what), new int[] {2, 1, 3, 2, 2}[what]);
        }
        Check.due("others", heap.count(5), -1000000);
        Check.due("others", heap.count(-1), -1000000);
    }
}
