/** Promises 7 to 18: ROOTS, OBJECTS, FIELDS, places, and each ACT with what it refuses. */
public final class ActTest {
    public static void main(String[] args) {
        making();
        refusedMaking();
        linking();
        loading();
        dropping();
        roomIsMade();
        noRoomChangesNothing();
        movingOrder();
        tooLargeForSurvivor();
        rememberedOnesKeep();
        weakInMinor();
        lastingInMinor();
        lastingOnesInOrder();
        majorPushesTogether();
        majorUnlinksYoung();
        weakAndLastingInMajor();
        telling();
        asking();
        lostIsForty();
        Check.finish();
    }

    private static void status(NurseryHeap x, int s0, int s1, int s2, int s3) {
        int[] want = {s0, s1, s2, s3};
        for (int what = 0; what < 4; what++) {
            Check.due("status " + what, x.status(what), want[what]);
        }
    }

    private static void lies(NurseryHeap x, int number, int space, int place) {
        Check.due("space of " + number, Check.thing(x, number, 0), space);
        Check.due("place of " + number, Check.thing(x, number, 1), place);
    }

    private static void gone(NurseryHeap x, int number) {
        Check.due("gone: " + number, Check.thing(x, number, 0), Check.THROWN);
        Check.due("no FIELD of what is gone", x.field(number, 0), -1);
    }

    private static void making() {
        NurseryHeap x = Check.heap("he20s8o48");
        Check.due("root", x.root(3), 0);
        Check.due("no such root", x.root(-1), -1);
        Check.due("no such root", x.root(8), -1);
        Check.due("make", x.make(3, 2, 4, 999), 1);
        Check.due("make", x.make(4, 1, 1, 0), 2);
        Check.due("make over the first", x.make(3, 0, 0, 5), 3);
        Check.due("root", x.root(3), 3);
        Check.due("root", x.root(4), 2);
        int[][] want = {{0, 0, 2, 4, 999, 0, 0, 0}, {0, 7, 1, 1, 0, 0, 1, 0}, {0, 11, 0, 0, 5, 0, 1, 0}};
        for (int number = 1; number <= 3; number++) {
            for (int what = 0; what < 8; what++) {
                Check.due("thing " + number + ", " + what, Check.thing(x, number, what), want[number - 1][what]);
            }
        }
        Check.due("no such what", Check.thing(x, 1, 8), Check.THROWN);
        Check.due("no such what", Check.thing(x, 1, -1), Check.THROWN);
        Check.due("no such OBJECT", Check.thing(x, 4, 0), Check.THROWN);
        Check.due("no such OBJECT", Check.thing(x, 0, 0), Check.THROWN);
        Check.due("no such OBJECT", Check.thing(x, -1, 0), Check.THROWN);
        for (int place = -2; place < 30; place++) {
            int number = place < 0 || place >= 14 ? -1 : place < 7 ? 1 : place < 11 ? 2 : 3;
            Check.due("at EDEN " + place, x.at(0, place), number);
            Check.due("at SURVIVOR " + place, x.at(1, place), -1);
            Check.due("at OLD " + place, x.at(2, place), -1);
            Check.due("no such SPACE", x.at(3, place), -1);
            Check.due("no such SPACE", x.at(-1, place), -1);
        }
        for (int field = 0; field < 4; field++) {
            Check.due("a new FIELD", x.field(1, field), 0);
        }
        Check.due("no such FIELD", x.field(1, 4), -1);
        Check.due("no such FIELD", x.field(1, -1), -1);
        Check.due("no FIELDS", x.field(3, 0), -1);
        Check.due("no such OBJECT", x.field(0, 0), -1);
    }

    private static void refusedMaking() {
        NurseryHeap x = new NurseryHeap();
        Check.due("no HEAP", x.make(0, 0, 9, 0), -1);
        status(x, 1, 0, 0, 0);
        Check.text(x, 0, "h");
        int[][] bad = {{0, -1, 0, 0}, {0, 3, 0, 0}, {0, 0, -1, 0}, {0, 0, 5, 0}, {0, 0, 0, -1}, {0, 0, 0, 1000},
            {0, 1, 0, 0}};
        for (int i = 0; i < bad.length; i++) {
            Check.due("out of bounds " + i, x.make(bad[i][0], bad[i][1], bad[i][2], bad[i][3]), -1);
            status(x, 1, i + 1, 0, 0);
        }
        Check.due("no such ROOT ahead of others", x.make(8, 3, 5, 1000), -1);
        Check.due("no such ROOT", x.make(-1, 0, 0, 0), -1);
        status(x, 3, 7, 0, 0);
        Check.due("nothing was MADE", x.most(5), 0);
        Check.due("nothing is in the LOG", x.count(3), 0);
    }

    private static void linking() {
        NurseryHeap x = Check.heap("h");
        x.make(0, 0, 2, 1);
        x.make(1, 0, 1, 2);
        Check.due("link", x.link(0, 0, 1), 0);
        Check.due("link to itself", x.link(0, 1, 0), 0);
        Check.due("field", x.field(1, 0), 2);
        Check.due("field", x.field(1, 1), 1);
        Check.due("link anew", x.link(0, 0, 0), 2);
        Check.due("link to none", x.link(0, 0, 8), 1);
        Check.due("field", x.field(1, 0), 0);
        Check.due("it is so: none", x.link(0, 0, 8), -1);
        Check.due("it is so", x.link(0, 1, 0), -1);
        status(x, 0, 0, 2, 0);
        Check.due("no such FIELD", x.link(0, 2, 1), -1);
        Check.due("no such FIELD", x.link(0, -1, 8), -1);
        status(x, 0, 2, 2, 0);
        Check.due("no such ROOT", x.link(8, 0, 1), -1);
        Check.due("no such ROOT", x.link(-1, 0, 1), -1);
        Check.due("no such other ROOT", x.link(0, 0, 9), -1);
        Check.due("no such other ROOT", x.link(0, 9, -1), -1);
        Check.due("an empty ROOT", x.link(2, 9, 1), -1);
        Check.due("the other one is empty", x.link(0, 9, 2), -1);
        status(x, 6, 2, 2, 0);
        Check.due("ACTS", x.count(4), 6);
    }

    private static void loading() {
        NurseryHeap x = Check.heap("h");
        x.make(0, 1, 2, 1);
        x.make(1, 0, 1, 2);
        x.link(0, 0, 1);
        Check.due("load over a weak FIELD", x.load(5, 0, 0), 2);
        Check.due("root", x.root(5), 2);
        Check.due("log: as it was ahead", x.log(0, 1), 0);
        Check.due("load again is an ACT", x.load(5, 0, 0), 2);
        Check.due("log", x.log(0, 1), 2);
        Check.due("load none", x.load(0, 0, 1), 0);
        Check.due("the ROOT is empty", x.root(0), 0);
        Check.due("log", x.log(0, 1), 1);
        Check.due("log", x.log(0, 0), 2);
        Check.due("the other one is empty", x.load(1, 0, 0), -1);
        Check.due("no such ROOT", x.load(8, 1, 0), -1);
        Check.due("no such ROOT", x.load(1, 8, 0), -1);
        Check.due("no such ROOT", x.load(-1, 1, 9), -1);
        status(x, 4, 0, 0, 0);
        Check.due("no such FIELD", x.load(3, 1, 1), -1);
        Check.due("no such FIELD", x.load(3, 1, -1), -1);
        status(x, 4, 2, 0, 0);
    }

    private static void dropping() {
        NurseryHeap x = Check.heap("h");
        x.make(7, 0, 0, 1);
        Check.due("no such ROOT", x.drop(8), -1);
        Check.due("no such ROOT", x.drop(-1), -1);
        Check.due("it is empty", x.drop(0), -1);
        status(x, 2, 0, 1, 0);
        Check.due("drop", x.drop(7), 1);
        Check.due("root", x.root(7), 0);
        Check.due("log", x.log(0, 0), 3);
        Check.due("log", x.log(0, 1), 1);
        Check.due("log", x.log(0, 2), 3);
        Check.due("it is empty", x.drop(7), -1);
        status(x, 2, 0, 2, 0);
    }

    private static void roomIsMade() {
        NurseryHeap x = Check.heap("he8s4o16a3");
        x.make(0, 0, 1, 1);
        x.make(0, 0, 0, 2);
        Check.due("a MINOR makes room", x.make(0, 0, 2, 3), 3);
        gone(x, 1);
        lies(x, 2, 1, 0);
        lies(x, 3, 0, 0);
        Check.due("one ACT", x.count(4), 3);
        Check.due("one row of the LOG", x.count(3), 3);
        Check.due("MINORS", x.most(6), 1);
        Check.due("cells then", x.log(0, 2), 8);
        Check.due("undo takes the MINOR back, too", x.undo(), 2);
        lies(x, 1, 0, 0);
        lies(x, 2, 0, 4);
        Check.due("MINORS", x.most(6), 0);
    }

    private static void noRoomChangesNothing() {
        NurseryHeap x = Check.heap("he8s4o16a1");
        x.make(0, 0, 4, 1);
        x.make(1, 0, 4, 2);
        x.make(2, 1, 1, 3);
        x.make(3, 2, 1, 4);
        Check.due("MINORS", x.most(6), 2);
        x.link(3, 0, 2);
        x.drop(3);
        for (int what = 0; what < 2; what++) {
            Check.due("no room", x.make(4, 0, 4, 5), -1);
            Check.due("a MINOR can't be", x.minor(), -1);
        }
        status(x, 0, 0, 0, 4);
        Check.due("MINORS", x.most(6), 2);
        Check.due("MAJORS", x.most(7), 0);
        Check.due("ENDS", x.line(0, -1), 0);
        Check.due("the link stays", x.field(4, 0), 3);
        lies(x, 3, 0, 0);
        lies(x, 4, 0, 4);
        lies(x, 2, 2, 7);
        Check.due("most OLD", x.most(2), 14);
        Check.due("ACTS", x.count(4), 6);
        x.drop(0);
        Check.due("a MAJOR makes room", x.make(4, 0, 4, 5), 5);
        Check.due("MINORS", x.most(6), 3);
        Check.due("MAJORS", x.most(7), 1);
        Check.due("ENDS", x.line(0, 0), 4);
        lies(x, 2, 2, 0);
        lies(x, 3, 2, 7);
        lies(x, 4, 2, 11);
        lies(x, 5, 0, 0);
        Check.due("gone", x.most(10), 1);
    }

    private static void movingOrder() {
        NurseryHeap x = Check.heap("he64s32o48a3");
        x.make(0, 0, 2, 1);
        x.make(1, 0, 0, 2);
        x.make(2, 0, 0, 3);
        x.make(3, 0, 1, 4);
        x.make(4, 0, 0, 5);
        x.link(0, 1, 1);
        x.link(0, 0, 2);
        x.link(3, 0, 4);
        x.drop(1);
        x.drop(2);
        x.drop(4);
        Check.due("minor", x.minor(), 0);
        lies(x, 1, 1, 0);
        lies(x, 4, 1, 5);
        lies(x, 3, 1, 9);
        lies(x, 2, 1, 12);
        lies(x, 5, 1, 15);
        Check.due("age", Check.thing(x, 5, 5), 1);
        Check.due("SURVIVOR in use", x.most(15), 1);
        Check.due("at", x.at(1, 8), 4);
        Check.due("minor", x.minor(), 0);
        Check.due("SURVIVOR in use", x.most(15), 0);
        Check.due("age", Check.thing(x, 5, 5), 2);
        Check.due("minor", x.minor(), 0);
        lies(x, 1, 2, 0);
        lies(x, 5, 2, 15);
        Check.due("SURVIVOR in use", x.most(15), 1);
        Check.due("SURVIVOR", x.most(1), 0);
        Check.due("minor of OLD ones alone", x.minor(), 0);
        Check.due("age", Check.thing(x, 5, 5), 3);
    }

    private static void tooLargeForSurvivor() {
        NurseryHeap x = Check.heap("he24s7o48a5");
        x.make(0, 0, 1, 1);
        x.make(1, 0, 1, 2);
        x.make(2, 0, 0, 3);
        Check.due("minor", x.minor(), 0);
        lies(x, 1, 1, 0);
        lies(x, 2, 2, 0);
        lies(x, 3, 1, 4);
        Check.due("age of the one that went early", Check.thing(x, 2, 5), 1);
        Check.due("moved", x.most(8), 3);
        Check.due("to OLD", x.most(9), 1);
    }

    private static void rememberedOnesKeep() {
        NurseryHeap x = Check.heap("he40s32o48a1");
        x.make(0, 1, 3, 1);
        x.minor();
        for (int i = 0; i < 3; i++) {
            x.make(1, 0, 1, i);
            x.link(0, 2 - i, 1);
        }
        x.make(2, 0, 0, 9);
        x.link(1, 0, 2);
        int[] fields = {2, 1, 0};
        for (int i = 0; i < 3; i++) {
            Check.due("remembered", x.remembered(i, 0), 1);
            Check.due("remembered", x.remembered(i, 1), fields[i]);
        }
        x.make(3, 0, 0, 9);
        Check.due("another YOUNG one", x.link(0, 2, 3), 2);
        Check.due("its place among the REMEMBERED stays", x.remembered(0, 1), 2);
        x.link(0, 1, 8);
        Check.due("remembered", x.remembered(-1, 0), 2);
        x.link(0, 1, 3);
        Check.due("it came again", x.remembered(2, 1), 1);
        for (int root = 0; root < 4; root++) {
            x.drop(root);
        }
        Check.due("not REACHED, but REMEMBERED", Check.thing(x, 6, 6), 0);
        Check.due("minor", x.minor(), 4);
        Check.due("kept by a REMEMBERED FIELD", Check.thing(x, 6, 0), 2);
        Check.due("a weak one keeps nothing", x.field(1, 0), 0);
        Check.due("LOST", x.line(1, 0), 1);
        Check.due("remembered", x.remembered(-1, 0), 0);
    }

    private static void weakInMinor() {
        NurseryHeap x = Check.heap("he64s32o48a2");
        x.make(0, 1, 2, 1);
        x.make(1, 0, 0, 2);
        x.make(2, 1, 1, 3);
        x.link(0, 0, 1);
        x.link(2, 0, 1);
        x.link(0, 1, 0);
        Check.due("minor", x.minor(), 0);
        Check.due("a weak link to what was moved stays", x.field(1, 0), 2);
        x.drop(1);
        Check.due("would", x.would(false, 3), 2);
        Check.due("minor", x.minor(), 1);
        gone(x, 2);
        Check.due("emptied", x.field(1, 0), 0);
        Check.due("other FIELDS stay", x.field(1, 1), 1);
        Check.due("LOST", x.line(1, -1), 2);
        Check.due("numbers rising", x.line(1, 0), 1);
        Check.due("numbers rising", x.line(1, 1), 3);
        x.minor();
        Check.due("told once", x.line(1, -1), 2);
        x.make(1, 0, 0, 1);
        x.link(0, 0, 1);
        x.drop(1);
        x.drop(0);
        Check.due("an OLD one that is not REACHED is emptied, too", x.minor(), 1);
        Check.due("LOST", x.line(1, 2), 1);
        Check.due("emptied ever", x.most(11), 3);
    }

    private static void lastingInMinor() {
        NurseryHeap x = Check.heap("he64s32o48a2");
        x.make(0, 2, 2, 1);
        x.make(1, 1, 1, 2);
        x.make(2, 0, 0, 3);
        x.make(3, 0, 0, 4);
        x.make(4, 1, 1, 5);
        x.link(0, 0, 1);
        x.link(0, 1, 2);
        x.link(1, 0, 3);
        x.link(4, 0, 2);
        for (int root = 0; root < 4; root++) {
            x.drop(root);
        }
        Check.due("minor", x.minor(), 1);
        Check.due("ENDS", x.line(0, 0), 1);
        Check.due("in ENDS", Check.thing(x, 1, 7), 1);
        gone(x, 4);
        lies(x, 5, 1, 0);
        lies(x, 1, 1, 4);
        lies(x, 2, 1, 9);
        lies(x, 3, 1, 13);
        Check.due("emptied ahead of (3)", x.field(5, 0), 0);
        Check.due("emptied in (4)", x.field(2, 0), 0);
        Check.due("LOST", x.line(1, 0), 5);
        Check.due("LOST", x.line(1, 1), 2);
        Check.due("ENDS once", x.minor(), 0);
        Check.due("ENDS once", x.line(0, -1), 1);
        Check.due("behind ENDS ever", x.most(12), 1);
    }

    private static void lastingOnesInOrder() {
        NurseryHeap x = Check.heap("he64s32o48a2");
        x.make(0, 2, 1, 1);
        x.make(1, 0, 1, 2);
        x.make(2, 2, 0, 3);
        x.make(3, 2, 0, 4);
        x.link(0, 0, 1);
        x.link(1, 0, 3);
        for (int root = 0; root < 4; root++) {
            x.drop(root);
        }
        Check.due("would", x.would(false, 4), 3);
        Check.due("minor", x.minor(), 0);
        for (int i = 0; i < 3; i++) {
            Check.due("ENDS", x.line(0, i), new int[] {1, 3, 4}[i]);
        }
        lies(x, 1, 1, 0);
        lies(x, 2, 1, 4);
        lies(x, 4, 1, 8);
        lies(x, 3, 1, 11);
        Check.due("no such line", x.line(2, 0), -1);
        Check.due("no such line", x.line(-1, -1), -1);
        Check.due("no such one", x.line(0, 3), -1);
        Check.due("no such one", x.line(0, -2), -1);
    }

    private static void majorPushesTogether() {
        NurseryHeap x = Check.heap("he64s32o64a1");
        for (int root = 0; root < 6; root++) {
            x.make(root, 0, root % 3, root);
        }
        x.minor();
        x.drop(0);
        x.drop(2);
        x.make(2, 0, 0, 1);
        x.link(4, 0, 2);
        x.link(5, 1, 2);
        Check.due("would", x.would(true, 0), 4);
        Check.due("would", x.would(true, 2), 2);
        Check.due("major", x.major(), 2);
        lies(x, 2, 2, 0);
        lies(x, 4, 2, 4);
        lies(x, 5, 2, 7);
        lies(x, 6, 2, 11);
        Check.due("OLD", x.most(2), 16);
        Check.due("EDEN", x.most(0), 3);
        Check.due("remembered", x.remembered(0, 0), 5);
        Check.due("remembered", x.remembered(1, 0), 6);
        Check.due("MAJORS", x.most(7), 1);
        Check.due("moved by MINORS", x.most(8), 6);
        Check.due("log", x.log(0, 0), 5);
        Check.due("log", x.log(0, 1), 2);
        Check.due("log", x.log(0, 2), 19);
        x.drop(4);
        x.major();
        Check.due("remembered of what is gone", x.remembered(-1, 0), 1);
        Check.due("remembered", x.remembered(0, 0), 6);
        Check.due("an empty HEAP can be collected", Check.heap("h").major(), 0);
    }

    private static void majorUnlinksYoung() {
        NurseryHeap x = Check.heap("he64s32o64a2");
        x.make(0, 1, 2, 1);
        x.make(1, 0, 1, 2);
        x.link(0, 0, 1);
        x.link(0, 1, 1);
        x.drop(0);
        Check.due("major", x.major(), 0);
        lies(x, 1, 0, 0);
        Check.due("unlinked", x.field(1, 0), 0);
        Check.due("unlinked", x.field(1, 1), 0);
        Check.due("that tells nothing", x.line(1, -1), 0);
        Check.due("nothing emptied", x.most(11), 0);
        Check.due("OBJECTS", x.count(0), 2);
    }

    private static void weakAndLastingInMajor() {
        NurseryHeap x = Check.heap("he64s32o64a1");
        x.make(0, 2, 1, 1);
        x.make(1, 1, 1, 2);
        x.make(2, 0, 0, 3);
        x.make(3, 1, 1, 4);
        x.make(4, 2, 0, 5);
        x.link(0, 0, 1);
        x.link(1, 0, 2);
        x.link(3, 0, 1);
        x.minor();
        x.make(5, 2, 0, 6);
        x.drop(5);
        x.drop(0);
        x.drop(1);
        x.drop(2);
        x.drop(4);
        Check.due("a MINOR leaves OLD LASTING ones", x.would(false, 4), 1);
        Check.due("would", x.would(true, 3), 2);
        Check.due("would", x.would(true, 4), 3);
        Check.due("major", x.major(), 1);
        Check.due("LOST", x.line(1, 0), 4);
        Check.due("LOST", x.line(1, 1), 2);
        for (int i = 0; i < 3; i++) {
            Check.due("ENDS", x.line(0, i), new int[] {1, 5, 6}[i]);
        }
        gone(x, 3);
        lies(x, 6, 0, 0);
        Check.due("kept by an END", Check.thing(x, 2, 6), 1);
        Check.due("a MAJOR without a HEAP", new NurseryHeap().major(), -1);
    }

    private static void telling() {
        NurseryHeap x = Check.heap("he64s32o64a2");
        x.make(0, 2, 0, 1);
        x.make(1, 2, 0, 2);
        x.drop(0);
        x.drop(1);
        Check.due("ENDS is empty", x.tell(0), -1);
        status(x, 0, 0, 1, 0);
        x.minor();
        Check.due("no such ROOT", x.tell(-1), -1);
        Check.due("no such ROOT", x.tell(9), -1);
        status(x, 2, 0, 1, 0);
        Check.due("tell", x.tell(5), 1);
        Check.due("root", x.root(5), 1);
        Check.due("plain", Check.thing(x, 1, 2), 0);
        Check.due("no longer in ENDS", Check.thing(x, 1, 7), 0);
        Check.due("ENDS", x.line(0, 0), 2);
        Check.due("log", x.log(0, 0), 6);
        Check.due("log", x.log(0, 1), 1);
        Check.due("tell to no ROOT", x.tell(8), 2);
        Check.due("REACHED no more", Check.thing(x, 2, 6), 0);
        Check.due("minor", x.minor(), 1);
        Check.due("never behind ENDS again", x.line(0, -1), 0);
    }

    private static void asking() {
        NurseryHeap x = new NurseryHeap();
        Check.due("no HEAP", x.ask(), -1);
        Check.text(x, 0, "he64s32o64a2");
        Check.due("LOST is empty", x.ask(), -1);
        status(x, 1, 0, 1, 0);
        x.make(0, 1, 1, 1);
        x.make(1, 1, 1, 2);
        x.make(2, 0, 0, 3);
        x.link(1, 0, 2);
        x.link(0, 0, 2);
        x.drop(2);
        x.minor();
        Check.due("ask", x.ask(), 1);
        Check.due("log", x.log(0, 0), 7);
        Check.due("log", x.log(0, 1), 1);
        x.drop(1);
        x.minor();
        gone(x, 2);
        Check.due("ask for one that is gone", x.ask(), 2);
        Check.due("undo", x.undo() >= 0, true);
        Check.due("LOST again", x.line(1, 0), 2);
    }

    private static void lostIsForty() {
        NurseryHeap x = Check.heap("he64s32o128a1");
        for (int i = 0; i < 7; i++) {
            x.make(i, 1, 1, 1);
        }
        x.minor();
        for (int again = 0; again < 6; again++) {
            x.make(7, 0, 0, 0);
            for (int i = 0; i < 7; i++) {
                x.link(i, 0, 7);
            }
            x.drop(7);
            x.minor();
            Check.due("LOST", x.line(1, -1), Math.min(40, 7 * (again + 1)));
        }
        Check.due("the latest 40", x.line(1, 0), 3);
        Check.due("the latest 40", x.line(1, 39), 7);
        Check.due("no such one", x.line(1, 40), -1);
        Check.due("emptied ever", x.most(11), 42);
        x.undo();
        Check.due("LOST as it was", x.line(1, -1), 35);
        Check.due("LOST as it was", x.line(1, 0), 1);
    }
}
