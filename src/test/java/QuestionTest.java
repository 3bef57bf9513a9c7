/** Promises 23 to 33 and 37: questions about the heap as it is, which change nothing. */
public final class QuestionTest {
    public static void main(String[] args) {
        remembered();
        rememberedByMoving();
        would();
        wouldChangesNothing();
        path();
        alone();
        holders();
        round();
        room();
        alike();
        alikeRounds();
        until();
        garbage();
        most();
        Check.finish();
    }

    private static void remembered() {
        NurseryHeap x = new NurseryHeap();
        Check.due("no HEAP", x.remembered(-1, 0), -1);
        Check.text(x, 0, "he40s32o48a1");
        Check.due("none", x.remembered(-1, 0), 0);
        Check.due("no such one", x.remembered(0, 0), -1);
        x.make(0, 1, 2, 1);
        x.minor();
        x.make(1, 0, 1, 2);
        x.link(1, 0, 0);
        Check.due("YOUNG to OLD", x.remembered(-1, 0), 0);
        x.link(0, 0, 0);
        Check.due("OLD to OLD", x.remembered(-1, 0), 0);
        x.link(0, 0, 1);
        Check.due("a weak one, too", x.remembered(-1, 0), 1);
        Check.due("its OBJECT", x.remembered(0, 0), 1);
        Check.due("its FIELD", x.remembered(0, 1), 0);
        Check.due("no such what", x.remembered(0, 2), -1);
        Check.due("no such what", x.remembered(0, -1), -1);
        Check.due("no such one", x.remembered(1, 0), -1);
        Check.due("no such one", x.remembered(-2, 0), -1);
        x.link(0, 0, 0);
        Check.due("no longer so", x.remembered(-1, 0), 0);
    }

    private static void rememberedByMoving() {
        NurseryHeap x = Check.heap("he64s7o48a3");
        x.make(0, 0, 0, 1);
        x.make(1, 0, 0, 2);
        x.make(2, 1, 3, 3);
        x.make(3, 0, 2, 4);
        x.link(2, 0, 1);
        x.link(2, 2, 0);
        x.link(2, 1, 3);
        x.link(3, 1, 0);
        x.minor();
        Check.due("too large", Check.thing(x, 3, 0), 2);
        Check.due("remembered", x.remembered(-1, 0), 3);
        int[][] want = {{3, 0}, {3, 2}, {4, 1}};
        for (int i = 0; i < 3; i++) {
            Check.due("OBJECT " + i, x.remembered(i, 0), want[i][0]);
            Check.due("FIELD " + i, x.remembered(i, 1), want[i][1]);
        }
        x.minor();
        Check.due("moved, but YOUNG still", x.remembered(2, 0), 4);
        x.minor();
        Check.due("all OLD", x.remembered(-1, 0), 0);
    }

    private static void would() {
        NurseryHeap x = new NurseryHeap();
        Check.due("no HEAP", x.would(false, 0), -1);
        Check.due("no HEAP", x.would(true, 0), -1);
        Check.text(x, 0, "he64s7o32a2");
        x.make(0, 0, 0, 1);
        x.make(1, 2, 1, 2);
        x.make(2, 1, 2, 3);
        x.make(3, 0, 0, 4);
        x.link(2, 0, 3);
        x.drop(3);
        x.drop(1);
        int[] minor = {3, 1, 1, 1, 1};
        int[] major = {0, 0, 0, 1, 1};
        for (int what = 0; what < 5; what++) {
            Check.due("would minor " + what, x.would(false, what), minor[what]);
            Check.due("would major " + what, x.would(true, what), major[what]);
        }
        Check.due("no such what", x.would(false, 5), -1);
        Check.due("no such what", x.would(true, -1), -1);
        NurseryHeap y = Check.heap("he24s4o16a1");
        y.make(0, 0, 4, 0);
        y.make(1, 0, 4, 0);
        y.make(2, 0, 4, 0);
        for (int what = 0; what < 5; what++) {
            Check.due("it can't be", y.would(false, what), -1);
            Check.due("a MAJOR can", y.would(true, what), 0);
        }
        Check.due("STATUS", y.status(3), 0);
    }

    private static void wouldChangesNothing() {
        NurseryHeap x = Check.heap("he40s8o40a2");
        x.years(40, 7);
        int acts = x.count(4);
        int cells = x.most(0) + x.most(1) + x.most(2);
        int[] before = new int[16];
        for (int what = 0; what < 16; what++) {
            before[what] = x.most(what);
        }
        for (int what = 0; what < 5; what++) {
            x.would(true, what);
            x.would(false, what);
        }
        Check.text(x, 1, "n0,0,1,1;m;j;x0");
        Check.due("run tells a STEP of the SCRIPT, or none", x.run(0, 0) < 4, true);
        for (int number = 1; number <= before[5]; number++) {
            x.until(number);
        }
        for (int what = 0; what < 16; what++) {
            Check.due("most " + what, x.most(what), before[what]);
        }
        Check.due("ACTS", x.count(4), acts);
        Check.due("cells", x.image(), cells);
    }

    private static void path() {
        NurseryHeap x = Check.heap("he64s8o48");
        x.make(0, 0, 4, 1);
        x.make(1, 0, 4, 2);
        x.make(2, 0, 4, 3);
        x.make(3, 1, 4, 4);
        x.make(4, 0, 4, 5);
        x.link(0, 3, 1);
        x.link(0, 2, 2);
        x.link(1, 0, 3);
        x.link(2, 1, 3);
        x.link(3, 0, 4);
        x.drop(4);
        Check.due("over a weak FIELD alone", x.path(5, -1), -1);
        x.link(3, 0, 8);
        Check.due("path to a ROOT's OBJECT", x.path(4, -1), 0);
        Check.due("the ROOT", x.path(4, 0), 3);
        x.drop(3);
        Check.due("the lowest ROOT", x.path(4, 0), 1);
        Check.due("its FIELD", x.path(4, 1), 0);
        x.drop(1);
        x.drop(2);
        Check.due("two FIELDS", x.path(4, -1), 2);
        Check.due("the ROOT", x.path(4, 0), 0);
        Check.due("the lowest FIELD first", x.path(4, 1), 2);
        Check.due("then its own", x.path(4, 2), 1);
        Check.due("no such one", x.path(4, 3), -1);
        Check.due("no such one", x.path(4, -2), -1);
        Check.due("no such OBJECT", x.path(6, -1), -1);
        Check.due("no such OBJECT", x.path(0, 0), -1);
        Check.due("not come to", x.path(5, 0), -1);
        x.load(7, 0, 3);
        Check.due("the shortest ahead of the lowest ROOT", x.path(4, 0), 7);
        Check.due("the shortest", x.path(4, -1), 1);
    }

    private static void alone() {
        NurseryHeap x = Check.heap("he64s8o48");
        x.make(0, 0, 2, 1);
        x.make(1, 1, 2, 2);
        x.make(2, 0, 1, 3);
        x.make(3, 2, 1, 4);
        x.link(0, 0, 2);
        x.link(1, 0, 2);
        x.link(2, 0, 3);
        x.drop(2);
        Check.due("alone", x.alone(0, 0), 2);
        Check.due("cells", x.alone(0, 1), 9);
        Check.due("alone, a weak FIELD left out", x.alone(1, 0), 1);
        Check.due("cells", x.alone(1, 1), 5);
        Check.due("kept by another way, too", x.alone(3, 0), 0);
        Check.due("cells", x.alone(3, 1), 0);
        Check.due("empty", x.alone(2, 0), -1);
        Check.due("no such ROOT", x.alone(8, 0), -1);
        Check.due("no such ROOT", x.alone(-1, 0), -1);
        Check.due("no such what", x.alone(0, 2), -1);
        Check.due("no such what", x.alone(0, -1), -1);
        x.link(0, 0, 8);
        x.drop(3);
        x.minor();
        x.make(3, 0, 1, 1);
        x.load(4, 3, 0);
        Check.due("ENDS keep, too", Check.thing(x, 4, 6), 1);
        Check.due("none of them alone", x.alone(3, 0), 1);
    }

    private static void holders() {
        NurseryHeap x = Check.heap("he64s8o48");
        x.make(0, 0, 2, 1);
        x.make(1, 1, 2, 2);
        x.make(2, 0, 1, 3);
        x.link(0, 0, 2);
        x.link(0, 1, 2);
        x.link(1, 0, 2);
        x.link(1, 1, 2);
        x.link(2, 0, 2);
        Check.due("ROOT, two FIELDS, one not weak, itself", x.holders(3), 5);
        x.load(5, 0, 0);
        Check.due("another ROOT", x.holders(3), 6);
        x.drop(0);
        Check.due("not REACHED ones do not count", x.holders(3), 4);
        Check.due("none holds it", x.holders(1), 0);
        Check.due("no such OBJECT", x.holders(4), -1);
        Check.due("no such OBJECT", x.holders(0), -1);
        x.make(0, 2, 0, 1);
        x.drop(0);
        x.minor();
        Check.due("ENDS do not count", x.holders(4), 0);
    }

    private static void round() {
        NurseryHeap x = Check.heap("he64s8o48");
        x.make(0, 1, 2, 1);
        x.make(1, 0, 2, 2);
        x.make(2, 0, 2, 3);
        x.link(0, 0, 0);
        Check.due("over a weak FIELD", x.round(1), -1);
        x.link(0, 1, 1);
        x.link(1, 1, 2);
        x.link(2, 0, 0);
        Check.due("three", x.round(1), 3);
        Check.due("three", x.round(3), 3);
        x.link(2, 1, 1);
        Check.due("two", x.round(2), 2);
        Check.due("three still", x.round(1), 3);
        x.link(2, 0, 2);
        Check.due("one", x.round(3), 1);
        Check.due("none", x.round(1), -1);
        x.drop(0);
        x.drop(1);
        x.drop(2);
        Check.due("not REACHED", x.round(2), 2);
        Check.due("no such OBJECT", x.round(4), -1);
        Check.due("no such OBJECT", x.round(-1), -1);
    }

    private static void room() {
        NurseryHeap x = new NurseryHeap();
        Check.due("no HEAP", x.room(0), -1);
        Check.text(x, 0, "he24");
        int[] want = {8, 6, 4, 4, 3};
        for (int fields = 0; fields < 5; fields++) {
            Check.due("room " + fields, x.room(fields), want[fields]);
        }
        Check.due("out of bounds", x.room(5), -1);
        Check.due("out of bounds", x.room(-1), -1);
        x.make(0, 0, 3, 1);
        Check.due("room", x.room(3), 3);
        Check.due("room", x.room(4), 2);
    }

    private static void alike() {
        NurseryHeap x = Check.heap("he64s8o48");
        x.make(0, 0, 2, 5);
        x.make(1, 0, 2, 5);
        Check.due("alike", x.alike(0, 1), true);
        x.make(2, 0, 2, 6);
        Check.due("DATA", x.alike(0, 2), false);
        x.make(2, 2, 2, 5);
        Check.due("KIND", x.alike(0, 2), false);
        x.make(2, 0, 1, 5);
        Check.due("FIELDS", x.alike(0, 2), false);
        x.link(0, 0, 2);
        Check.due("one beside none", x.alike(0, 1), false);
        Check.due("none beside one", x.alike(1, 0), false);
        x.link(1, 1, 2);
        Check.due("another FIELD", x.alike(0, 1), false);
        x.link(1, 0, 2);
        x.link(0, 1, 2);
        Check.due("alike", x.alike(0, 1), true);
        x.make(3, 0, 1, 5);
        x.link(1, 1, 3);
        Check.due("one beside two", x.alike(0, 1), false);
        Check.due("two beside one", x.alike(1, 0), false);
        Check.due("itself", x.alike(0, 0), true);
        Check.due("empty", x.alike(0, 7), false);
        Check.due("empty both", x.alike(7, 7), false);
        Check.due("no such ROOT", x.alike(8, 0), false);
        Check.due("no such ROOT", x.alike(0, -1), false);
        Check.due("no HEAP", new NurseryHeap().alike(0, 0), false);
    }

    private static void alikeRounds() {
        NurseryHeap x = Check.heap("he64s8o48");
        for (int root = 0; root < 6; root++) {
            x.make(root, 0, 1, 1);
        }
        x.link(0, 0, 1);
        x.link(1, 0, 2);
        x.link(2, 0, 0);
        x.link(3, 0, 4);
        x.link(4, 0, 3);
        Check.due("rounds of one length, turned", x.alike(0, 1), true);
        Check.due("rounds of two lengths", x.alike(0, 3), false);
        Check.due("rounds of two lengths", x.alike(3, 0), false);
        x.link(3, 0, 3);
        Check.due("4 is linked to 4 now, 5 to 4", x.alike(3, 4), false);
        NurseryHeap y = Check.heap("he64s8o48");
        y.make(0, 1, 1, 1);
        y.make(1, 1, 1, 1);
        y.make(2, 0, 0, 1);
        y.link(0, 0, 2);
        Check.due("weak FIELDS count", y.alike(0, 1), false);
        y.minor();
        y.make(2, 0, 0, 1);
        y.link(1, 0, 2);
        Check.due("AGE and place do not", y.alike(0, 1), true);
    }

    private static void until() {
        NurseryHeap x = Check.heap("he64s32o48a5");
        x.make(0, 0, 0, 1);
        x.make(1, 0, 0, 2);
        x.drop(1);
        Check.due("until", x.until(1), 5);
        Check.due("gone ahead of it", x.until(2), -1);
        Check.due("no such OBJECT", x.until(3), -1);
        Check.due("no such OBJECT", x.until(0), -1);
        for (int left = 4; left >= 0; left--) {
            x.minor();
            Check.due("until", x.until(1), left);
        }
        NurseryHeap y = Check.heap("he24s4o16a2");
        for (int root = 0; root < 3; root++) {
            y.make(root, 0, 4, 0);
        }
        Check.due("a MINOR can't be", y.until(1), -1);
        NurseryHeap z = Check.heap("he64s16o48a4");
        z.make(0, 1, 1, 0);
        z.make(1, 2, 0, 0);
        z.drop(1);
        Check.due("ENDS are kept", z.until(2), 4);
    }

    private static void garbage() {
        NurseryHeap x = new NurseryHeap();
        Check.due("no HEAP", x.garbage(0), -1);
        Check.text(x, 0, "he64s32o48a2");
        x.make(0, 0, 1, 1);
        x.make(1, 0, 2, 1);
        x.minor();
        x.drop(1);
        x.make(1, 0, 0, 1);
        x.make(1, 0, 4, 1);
        Check.due("EDEN", x.garbage(0), 3);
        Check.due("SURVIVOR", x.garbage(1), 5);
        Check.due("OLD", x.garbage(2), 0);
        x.undo();
        x.undo();
        x.undo();
        x.minor();
        x.drop(0);
        Check.due("OLD", x.garbage(2), 4);
        Check.due("SURVIVOR", x.garbage(1), 0);
        Check.due("no such SPACE", x.garbage(3), -1);
        Check.due("no such SPACE", x.garbage(-1), -1);
    }

    private static void most() {
        NurseryHeap x = Check.heap("he64s8o48a3");
        x.make(0, 1, 1, 1);
        x.make(2, 2, 0, 1);
        x.make(5, 0, 1, 1);
        x.link(0, 0, 5);
        x.drop(5);
        x.drop(2);
        x.minor();
        x.make(7, 0, 4, 1);
        x.make(7, 0, 0, 1);
        x.major();
        int[] want = {10, 7, 0, 4, 3, 5, 1, 1, 2, 0, 1, 1, 1, 1, 129, 1};
        for (int what = 0; what < 16; what++) {
            Check.due("most " + what, x.most(what), want[what]);
        }
        Check.due("no such what", x.most(16), -1000000);
        Check.due("no such what", x.most(-1), -1000000);
    }
}
