/** Promises 1 to 6 and 34: the tape, HEAPS and SCRIPTS as texts. */
public final class TextTest {
    public static void main(String[] args) {
        newObject();
        feedAndEnd();
        heapFaults();
        scriptFaults();
        heapTexts();
        scriptTexts();
        Check.finish();
    }

    private static void newObject() {
        NurseryHeap x = new NurseryHeap();
        for (int what = 0; what < 5; what++) {
            Check.due("count of a new object", x.count(what), 0);
        }
        for (int what = 0; what < 4; what++) {
            Check.due("rule without a HEAP", x.rule(what), -1);
            Check.due("status of a new object", x.status(what), 0);
        }
        Check.due("root without a HEAP", x.root(0), -1);
        Check.due("most without a HEAP", x.most(5), -1000000);
    }

    private static void feedAndEnd() {
        NurseryHeap x = new NurseryHeap();
        Check.due("feed zeros", x.feed(0, 0, 0, 0, 0), 0);
        Check.due("feed with zeros between", x.feed(0x68000065, 0x00380000, 0, 0, 0xFF), 4);
        Check.due("high bytes are no blanks", x.fault(0), 3);
        Check.due("end beyond", x.end(5), false);
        Check.due("end below", x.end(-1), false);
        Check.due("end at the least", x.end(Integer.MIN_VALUE), false);
        Check.due("nothing cut", x.count(2), 4);
        Check.due("end at the length", x.end(4), true);
        Check.due("end", x.end(3), true);
        Check.due("cut", x.count(2), 3);
        Check.due("he8", x.fault(0), -1);
        Check.due("end 0", x.end(0), true);
        int m = 0x6D6D6D6D;
        for (int i = 1; i <= 12; i++) {
            Check.due("feed 20", x.feed(m, m, m, m, m), 20 * i);
        }
        Check.due("feed beyond 240", x.feed(0, 0, 0, 0, 1), -1);
        Check.due("feed none at 240", x.feed(0, 0, 0, 0, 0), 240);
        Check.due("still 240", x.count(2), 240);
        Check.due("end 225", x.end(225), true);
        Check.due("feed 20 at 225", x.feed(m, m, m, m, m), -1);
        Check.due("nothing of it was taken", x.count(2), 225);
        Check.due("feed 15 at 225", x.feed(m, m, m, 0x6D6D006D, 0), 240);
    }

    private static void heap(String text, int want) {
        Check.due("fault of the HEAP '" + text + "'", Check.fault(new NurseryHeap(), 0, text), want);
    }

    private static void script(String text, int want) {
        Check.due("fault of the SCRIPT '" + text + "'", Check.fault(new NurseryHeap(), 1, text), want);
    }

    private static void heapFaults() {
        heap("", 0);
        heap("   ", 3);
        heap("H", 0);
        heap("h", -1);
        heap("  h  ", -1);
        heap("hh", 1);
        heap("hx", 1);
        heap("h8", 1);
        heap("he", 2);
        heap("he ", 3);
        heap("he,8", 2);
        heap("he8", -1);
        heap("he08", -1);
        heap("he008", -1);
        heap("he0008", 5);
        heap("he9999", 5);
        heap("he6", 2);
        heap("he7 s8", 2);
        heap("he64", -1);
        heap("he65", 3);
        heap("he651", 4);
        heap("he000", 4);
        heap("he8 8", 4);
        heap("he8e9", 3);
        heap("he8 s4 e8", 7);
        heap("hs3", 2);
        heap("hs4", -1);
        heap("hs32", -1);
        heap("hs33", 3);
        heap("ho15", 3);
        heap("ho16", -1);
        heap("ho128", -1);
        heap("ho129", 4);
        heap("ha0", 2);
        heap("ha1", -1);
        heap("ha5", -1);
        heap("ha6", 2);
        heap("ha1o16s4e8", -1);
        heap("ha1o16s4e8 ", -1);
        heap("ha1o16s4e8a", 10);
        heap("ha1o16s4e8;", 10);
        heap(" h e 8 s 4 o 1 6", 13);
        heap(" h e 8 s 4 o 16 6", 16);
        heap("h\te8", 1);
        heap("he" + (char) 0xB2, 2);
        Check.due("no such sort", new NurseryHeap().fault(2), -2);
        Check.due("no such sort", new NurseryHeap().fault(-1), -2);
    }

    private static void scriptFaults() {
        script("", 0);
        script("  ", 2);
        script(";", 0);
        script("m", -1);
        script(" m ; j ", -1);
        script("m;", 2);
        script("m; ", 3);
        script("m;;", 2);
        script("m j", 2);
        script("mj", 1);
        script("M", 0);
        script("m0", 1);
        script("n", 1);
        script("n0", 2);
        script("n0,", 3);
        script("n,", 1);
        script("n0,0,0,0", -1);
        script("n999,999,999,999", -1);
        script(" n 9 , 8 , 7 , 6 ", -1);
        script("n0,0,0,0,0", 8);
        script("n0,0,0", 6);
        script("n0,0,0;", 6);
        script("n1000,0,0,0", 4);
        script("n0000", 4);
        script("n0,0,0,1 2", 9);
        script("w0,0,8", -1);
        script("w0,0", 4);
        script("w0,0,8,1", 6);
        script("w0;0", 2);
        script("l0,1,2", -1);
        script("l0,1;", 4);
        script("x", 1);
        script("x 7", -1);
        script("x7,", 2);
        script("e8", -1);
        script("e", 1);
        script("e-1", 1);
        script("q", 0);
        script("m;q", 2);
        String sixteen = "m;".repeat(15) + "m";
        script(sixteen, -1);
        script(sixteen + " ", -1);
        script(sixteen + ";", 31);
        script(sixteen + " ;m", 32);
        script("m;".repeat(15) + "q", 30);
    }

    private static void heapTexts() {
        NurseryHeap x = new NurseryHeap();
        Check.due("text 0 of nothing", x.text(0), -1);
        Check.due("no such sort", Check.text(x, 2, "h"), -1);
        Check.due("the TAPE stays", x.count(2), 1);
        Check.due("no such sort", x.text(-1), -1);
        Check.due("h", x.text(0), 24 + 16 + 48);
        Check.due("the TAPE is empty", x.count(2), 0);
        Check.due("EDEN", x.rule(0), 24);
        Check.due("SURVIVOR", x.rule(1), 8);
        Check.due("OLD", x.rule(2), 48);
        Check.due("AGE", x.rule(3), 2);
        Check.due("no such rule", x.rule(-1), -1);
        Check.due("no such rule", x.rule(4), -1);
        x.make(0, 1, 1, 1);
        x.make(0, 9, 1, 1);
        x.image();
        Check.due("a FAULT", Check.text(x, 0, "he7"), -1);
        Check.due("the TAPE stays", x.count(2), 3);
        Check.due("the HEAP stays", x.rule(0), 24);
        Check.due("the OBJECT stays", x.count(0), 1);
        Check.due("another HEAP", Check.text(x, 0, "ha5o100e64s32"), 64 + 64 + 100);
        Check.due("EDEN", x.rule(0), 64);
        Check.due("SURVIVOR", x.rule(1), 32);
        Check.due("OLD", x.rule(2), 100);
        Check.due("AGE", x.rule(3), 5);
        Check.due("no OBJECTS", x.count(0), 0);
        Check.due("ROOT is empty", x.root(0), 0);
        Check.due("no LOG", x.count(3), 0);
        Check.due("no UNDO", x.undo(), -1);
        Check.due("no IMAGE of it", x.back(), -1);
        Check.due("STATUS stays", x.status(1), 1);
        for (int what = 0; what < 16; what++) {
            Check.due("most " + what + " of a new HEAP", x.most(what), 0);
        }
        Check.due("numbers begin anew", x.make(7, 0, 0, 0), 1);
    }

    private static void scriptTexts() {
        NurseryHeap x = new NurseryHeap();
        Check.due("script 0", Check.text(x, 1, "n1,2,3,4;w5,6,7;l8,9,10;x11;m;j;e012"), 0);
        int[][] want = {{0, 1, 2, 3, 4}, {1, 5, 6, 7, -1}, {2, 8, 9, 10, -1}, {3, 11, -1, -1, -1},
            {4, -1, -1, -1, -1}, {5, -1, -1, -1, -1}, {6, 12, -1, -1, -1}};
        for (int i = 0; i < want.length; i++) {
            for (int what = 0; what < 5; what++) {
                Check.due("step " + i + ", " + what, x.step(0, i, what), want[i][what]);
            }
            Check.due("no such what", x.step(0, i, 5), -1000000);
            Check.due("no such what", x.step(0, i, -1), -1000000);
        }
        Check.due("no such STEP", x.step(0, 7, 0), -1000000);
        Check.due("no such STEP", x.step(0, -1, 0), -1000000);
        Check.due("no such SCRIPT", x.step(1, 0, 0), -1000000);
        Check.due("no such SCRIPT", x.step(-1, 0, 0), -1000000);
        Check.due("a FAULT", Check.text(x, 1, "n1,2,3"), -1);
        Check.due("the TAPE stays", x.count(2), 6);
        Check.due("no SCRIPT of it", x.count(1), 1);
        Check.due("script 1", Check.text(x, 1, "m;".repeat(15) + "j"), 1);
        Check.due("the TAPE is empty", x.count(2), 0);
        Check.due("its last STEP", x.step(1, 15, 0), 5);
        Check.due("script 2", Check.text(x, 1, "x0"), 2);
        Check.due("script 3", Check.text(x, 1, "x1"), 3);
        Check.due("a fifth SCRIPT", Check.text(x, 1, "x2"), -1);
        Check.due("the TAPE stays", x.count(2), 2);
        Check.due("four SCRIPTS", x.count(1), 4);
        Check.due("a HEAP", Check.text(x, 0, "h"), 88);
        Check.due("SCRIPTS stay", x.count(1), 4);
        Check.due("SCRIPTS stay", x.step(3, 0, 1), 1);
        Check.due("the first one, too", x.step(0, 0, 4), 4);
    }
}
