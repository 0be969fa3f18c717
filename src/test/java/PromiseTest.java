/** Each promise of the document by itself: ordinary inputs, the edges that it names, wrong inputs. */
public final class PromiseTest {
    private static final int NONE = -1, UNKNOWN = -1000000001, OUTSIDE = -1000000002, NOT = -1000000003, FULL = -1000000004;
    private static final Check CHECK = new Check("PromiseTest");

    /** Far ends 0 1 2 3 are of wires 2 0 3 1; 1 leaks, 3 is flaky, 0 and 2 touch. */
    private static final String FOUR = "c2,0,3,1;k1 2;k3 3;s0 2;";
    private static final String FIVE = "c3,1,0,2,4;";

    public static void main(String[] args) {
        newObject();
        feed();
        cable();
        textThatStands();
        faultsOfLetters();
        faultsOfNumbers();
        faultsOfWhatWasTold();
        fault();
        told();
        wire();
        end();
        couldBe();
        net();
        rings();
        touches();
        tie();
        cross();
        test();
        rest();
        mend();
        touch();
        drift();
        undo();
        cut();
        cutOfLeaks();
        ask();
        left();
        ties();
        dry();
        see();
        write();
        tear();
        judge();
        seed();
        keep();
        goBack();
        refusedChangesNothing();
        CHECK.end();
    }

    private static void due(String call, int got, int want) {
        CHECK.due(call, got, want);
    }

    // Promise 1
    private static void newObject() {
        FarEnds x = new FarEnds();
        for (int what = 0; what <= 13; what++) {
            due("new: told(" + what + ")", x.told(what), what == 9 ? NONE : 0);
        }
        due("new: fault()", x.fault(), NONE);
        due("new: wire(0, 0)", x.wire(0, 0), UNKNOWN);
        due("new: end(0, 0)", x.end(0, 0), UNKNOWN);
        due("new: net(0, 0)", x.net(0, 0), UNKNOWN);
        due("new: net(7, 0)", x.net(7, 0), UNKNOWN);
        due("new: rings(0, 1)", x.rings(0, 1), UNKNOWN);
        due("new: rings(0, NONE)", x.rings(0, NONE), UNKNOWN);
        due("new: see(0, 1)", x.see(0, 1, true), UNKNOWN);
        due("new: write(0, 0)", x.write(0, 0), UNKNOWN);
        due("new: tear()", x.tear(), 0);
        due("new: judge()", x.judge(), NONE);
        due("new: cut(0, 1)", x.cut(0, 1), UNKNOWN);
        due("new: seed(3)", x.seed(3), 0);
        due("new: goBack(0)", x.goBack(0), NOT);
        due("new: keep(0)", x.keep(0), 1);
        due("new: seed(4)", x.seed(4), 3);
        due("new: goBack(0) of no cable", x.goBack(0), 1);
        due("new: seed(4) behind it", x.seed(4), 3);
    }

    // Promise 2
    private static void feed() {
        FarEnds x = new FarEnds();
        due("feed(-1)", x.feed(-1), OUTSIDE);
        due("feed(256)", x.feed(256), OUTSIDE);
        due("feed(MIN)", x.feed(Integer.MIN_VALUE), OUTSIDE);
        due("feed(0)", x.feed(0), 1);
        due("feed(255)", x.feed(255), 2);
        for (int i = 3; i <= 240; i++) {
            due("feed(32) as letter " + i, x.feed(32), i);
        }
        due("feed(32) as letter 241", x.feed(32), FULL);
        due("feed(256) with a full text", x.feed(256), OUTSIDE);
        due("told(5) of a full text", x.told(5), 240);
        due("cable() of it", x.cable(), -11);
        due("feed(32) behind it", x.feed(32), 1);
    }

    // Promise 3
    private static void cable() {
        FarEnds x = Check.cable(FOUR);
        x.seed(77);
        x.tie(0, 1);
        x.cross();
        x.tie(3, 2);
        x.test(0, 1);
        x.see(0, 1, true);
        x.write(0, 2);
        x.keep(1);
        x.mend(0, 3);
        Check.feed(x, "c0,1");
        due("cable() that is faulty", x.cable(), -11);
        due("fault() of it", x.fault(), 4);
        due("letters behind it", x.told(5), 0);
        due("wires stay", x.told(0), 4);
        due("kind stays", x.wire(0, 0), 3);
        due("place stays", x.told(1), 1);
        due("seen stays", x.told(11), 1);
        due("book stays", x.told(12), 1);
        due("undone stays", x.told(13), 1);
        due("touching stays", x.told(6), 1);
        due("image stays", x.goBack(1), 1);
        due("kind of the image", x.wire(0, 0), 0);
        x.rest(3);
        Check.feed(x, "c1,0;k1 3;");
        due("cable() anew", x.cable(), 2);
        int[] want = {2, 0, 0, 0, 0, 0, 0, 3, 2, NONE, 2, 0, 0, 0};
        for (int what = 0; what < want.length; what++) {
            due("anew: told(" + what + ")", x.told(what), want[what]);
        }
        due("anew: group of a near end", x.wire(0, 3), 0);
        due("anew: group of a far end", x.end(1, 1), 0);
        due("anew: image is gone", x.goBack(1), NOT);
        due("anew: undone is gone", x.undo(), NOT);
        due("anew: the seed stays", x.seed(1), 77);
        due("anew: fault()", x.fault(), NONE);
        Check.feed(x, "   ");
        due("cable() of blanks", x.cable(), 0);
        due("wires of blanks", x.told(0), 0);
        due("cross() without a cable", x.cross(), NOT);
    }

    private static void textThatStands() {
        CHECK.sound("", 0);
        CHECK.sound("    ", 0);
        CHECK.sound("c0,1;", 2);
        CHECK.sound("c1,0;", 2);
        CHECK.sound("c2,1,0;", 3);
        CHECK.sound("c4,3,2,1,0;", 5);
        CHECK.sound("  c  0  ,  1  ;  k 0 1 ; s 0 1 ;  ", 2);
        CHECK.sound("c000,001;", 2);
        CHECK.sound("c0,1;k000 003;s01 0;", 2);
        CHECK.sound("c0,1;k0 1;k1 1;s1 0;", 2);
        CHECK.sound("c0,1;s1 0;k1 2;", 2);
        CHECK.sound("c0,1,2;s0 1;s2 1;s0 2;", 3);
        CHECK.sound("c0,1;" + " ".repeat(235), 2);
        FarEnds x = Check.cable("c2,0,1;k2 3;k0 1;s2 0;");
        int[] kinds = {1, 0, 3};
        int[] ends = {1, 2, 0};
        for (int w = 0; w < 3; w++) {
            due("told: kind of " + w, x.wire(w, 0), kinds[w]);
            due("told: far end of " + w, x.wire(w, 1), ends[w]);
        }
        due("told: 0 and 2 touch", x.touches(0, 2), 1);
        due("told: 0 and 1 do not", x.touches(0, 1), 0);
    }

    private static void faultsOfLetters() {
        CHECK.faulty("x", 1, 0);
        CHECK.faulty(" k0 1;", 1, 1);
        CHECK.faulty("s0 1;", 1, 0);
        CHECK.faulty("0", 1, 0);
        CHECK.faulty("9999", 1, 0);
        CHECK.faulty(";", 1, 0);
        CHECK.faulty(",", 1, 0);
        CHECK.faulty("C0,1;", 1, 0);
        CHECK.faulty("c", 1, 1);
        CHECK.faulty("c  ", 1, 3);
        CHECK.faulty("cc", 1, 1);
        CHECK.faulty("c,", 1, 1);
        CHECK.faulty("c;", 1, 1);
        CHECK.faulty("c0", 1, 2);
        CHECK.faulty("c0;", 1, 2);
        CHECK.faulty("c 0 ;", 1, 4);
        CHECK.faulty("c0 1;", 1, 3);
        CHECK.faulty("c0,", 1, 3);
        CHECK.faulty("c0,;", 1, 3);
        CHECK.faulty("c0,,1;", 1, 3);
        CHECK.faulty("c0,1", 1, 4);
        CHECK.faulty("c0,1  ", 1, 6);
        CHECK.faulty("c0,1c", 1, 4);
        CHECK.faulty("c1,2;", 1, 4);
        CHECK.faulty("c0,2;", 1, 4);
        CHECK.faulty("c0,1,3;", 1, 6);
        CHECK.faulty("c0,1,2,3,4,", 1, 10);
        CHECK.faulty("c0,1,2,3,4,9999", 1, 10);
        CHECK.faulty("c0,1,2,3,4 5;", 1, 11);
        CHECK.faulty("c0,1;;", 1, 5);
        CHECK.faulty("c0,1;,", 1, 5);
        CHECK.faulty("c0,1;7", 1, 5);
        CHECK.faulty("c0,1;k", 1, 6);
        CHECK.faulty("c0,1;kk", 1, 6);
        CHECK.faulty("c0,1;kc", 1, 6);
        CHECK.faulty("c0,1;k0", 1, 7);
        CHECK.faulty("c0,1;k0;", 1, 7);
        CHECK.faulty("c0,1;k01;", 1, 8);
        CHECK.faulty("c0,1;k0,1;", 1, 7);
        CHECK.faulty("c0,1;k0 1", 1, 9);
        CHECK.faulty("c0,1;k0 1 2;", 1, 10);
        CHECK.faulty("c0,1;k0 1 2222;", 1, 10);
        CHECK.faulty("c0,1;k0 1k", 1, 9);
        CHECK.faulty("c0,1;s", 1, 6);
        CHECK.faulty("c0,1;s;", 1, 6);
        CHECK.faulty("c0,1;s0;", 1, 7);
        CHECK.faulty("c0,1;s0 1", 1, 9);
        CHECK.faulty("c0,1;s0 1,", 1, 9);
        CHECK.faulty("c0,1\t;", 1, 4);
        CHECK.faulty("c0,1;" + (char) 0, 1, 5);
        CHECK.faulty("c0,1;" + (char) 255, 1, 5);
        CHECK.faulty("c0,1" + " ".repeat(236), 1, 240);
    }

    private static void faultsOfNumbers() {
        CHECK.faulty("c5,0;", 2, 1);
        CHECK.faulty("c 0, 5;", 2, 5);
        CHECK.faulty("c0000,1;", 2, 1);
        CHECK.faulty("c0,0000", 2, 3);
        CHECK.faulty("c999", 2, 1);
        CHECK.faulty("c4294967296,1;", 2, 1);
        CHECK.faulty("c" + "0".repeat(239), 2, 1);
        CHECK.faulty("c0,1;k2 1;", 2, 6);
        CHECK.faulty("c0,1;k0 0;", 2, 8);
        CHECK.faulty("c0,1;k0 4;", 2, 8);
        CHECK.faulty("c0,1;k0 0001;", 2, 8);
        CHECK.faulty("c0,1;k0000 1;", 2, 6);
        CHECK.faulty("c0,1;s2 0;", 2, 6);
        CHECK.faulty("c0,1;s0 2;", 2, 8);
        CHECK.faulty("c0,1;s0 0000;", 2, 8);
        CHECK.faulty("c0,1;s5 5;", 2, 6);
    }

    private static void faultsOfWhatWasTold() {
        CHECK.faulty("c0,1;c", 3, 5);
        CHECK.faulty("c0,1; c0,1;", 3, 6);
        CHECK.faulty("c0,1;k0 1;c", 3, 10);
        CHECK.faulty("c0,0;", 4, 3);
        CHECK.faulty("c1,2,1", 4, 5);
        CHECK.faulty("c0,1,2,3, 3;", 4, 10);
        CHECK.faulty("c0,1;k0 1;k0 9;", 4, 11);
        CHECK.faulty("c0,1;k0 1;k00 1;", 4, 11);
        CHECK.faulty("c0,1;s0 0;", 4, 8);
        CHECK.faulty("c0,1;s1  001;", 4, 9);
        CHECK.faulty("c0,1;s0 1;s0 1;", 4, 13);
        CHECK.faulty("c0,1;s0 1;s1 0;", 4, 13);
    }

    // Promise 4
    private static void fault() {
        FarEnds x = Check.cable("c0,1;k");
        due("fault()", x.fault(), 6);
        due("fault() again", x.fault(), 6);
        x.feed('c');
        due("fault() while the next text comes", x.fault(), 6);
        Check.feed(x, "0,1;");
        x.cable();
        due("fault() behind a text that stands", x.fault(), NONE);
        x.cable();
        due("fault() behind an empty text", x.fault(), NONE);
        Check.feed(x, "c0,1;      k0 1;");
        x.cable();
        Check.feed(x, "c1,0;");
        due("a shorter text behind a longer one", x.cable(), 2);
        due("its kinds are its own", x.wire(0, 0), 0);
        Check.feed(x, "c0,1;      ");
        x.cable();
        Check.feed(x, "c0,1;k");
        x.cable();
        due("fault() at the end of a shorter text", x.fault(), 6);
    }

    // Promise 5
    private static void told() {
        FarEnds x = Check.cable(FOUR);
        due("told(-1)", x.told(-1), OUTSIDE);
        due("told(14)", x.told(14), OUTSIDE);
        due("told(0)", x.told(0), 4);
        x.cross();
        x.rest(5);
        x.cross();
        x.cross();
        x.test(0, 1);
        x.test(0, NONE);
        x.feed('c');
        x.feed('0');
        x.see(0, 1, false);
        x.write(1, 1);
        x.write(1, 0);
        x.touch(1, 3, true);
        due("told(1)", x.told(1), 1);
        due("told(2)", x.told(2), 8);
        due("told(3)", x.told(3), 3);
        due("told(4)", x.told(4), 2);
        due("told(5)", x.told(5), 2);
        due("told(6)", x.told(6), 2);
        due("told(11)", x.told(11), 1);
        due("told(12)", x.told(12), 2);
        due("told(13)", x.told(13), 7);
        FarEnds y = Check.cable("c0,1,2;k0 1;k1 3;s0 2;");
        due("told(7) in an even hour", y.told(7), 6);
        y.rest(1);
        due("told(7) in an odd hour", y.told(7), 4);
        y.cross();
        y.rest(1);
        y.tie(0, 2);
        y.tie(2, 2);
        due("told(7): good by ties at the other end", y.told(7), 5);
    }

    // Promise 6
    private static void wire() {
        FarEnds x = Check.cable("c2,0,3,1;k0 1;k1 2;k3 3;");
        int[][] want = {{1, 1, 0, 0}, {2, 3, 1, 3}, {0, 0, 1, 0}, {3, 2, 1, 0}};
        x.tie(1, 3);
        for (int w = 0; w < 4; w++) {
            for (int what = 0; what < 4; what++) {
                due("wire(" + w + ", " + what + ")", x.wire(w, what), want[w][what]);
            }
        }
        x.rest(1);
        due("flaky in hour 1", x.wire(3, 2), 0);
        due("leaking in hour 1", x.wire(1, 2), 1);
        x.rest(1);
        due("flaky in hour 2", x.wire(3, 2), 1);
        due("wire(-1, 9)", x.wire(-1, 9), UNKNOWN);
        due("wire(4, 0)", x.wire(4, 0), UNKNOWN);
        due("wire(0, 4)", x.wire(0, 4), OUTSIDE);
        due("wire(0, -1)", x.wire(0, -1), OUTSIDE);
    }

    // Promise 7
    private static void end() {
        FarEnds x = Check.cable("c2,0,3,1;");
        x.tie(1, 1);
        x.cross();
        x.tie(2, 3);
        int[][] want = {{2, 0, 15, 0}, {0, 0, 15, 1}, {3, 3, 15, 2}, {1, 0, 15, 3}};
        for (int e = 0; e < 4; e++) {
            for (int what = 0; what < 4; what++) {
                due("end(" + e + ", " + what + ")", x.end(e, what), want[e][what]);
            }
        }
        due("end(-1, 9)", x.end(-1, 9), UNKNOWN);
        due("end(4, 0)", x.end(4, 0), UNKNOWN);
        due("end(0, 4)", x.end(0, 4), OUTSIDE);
        due("end(0, -1)", x.end(0, -1), OUTSIDE);
    }

    /** What could be goes by ties, hour and place of then, by kinds and touching of now. */
    private static void couldBe() {
        FarEnds x = Check.cable("c1,2,0;k0 2;");
        x.cross();
        x.see(2, NONE, true);
        due("earth rang: orders", x.told(8), 2);
        due("earth rang: set of 2", x.end(2, 2), 1);
        due("earth rang: set of 0", x.end(0, 2), 6);
        due("earth rang: first of 0", x.end(0, 3), 1);
        due("earth rang: first of 1", x.end(1, 3), 2);
        x.cross();
        due("seen at the far place stays so at the near one", x.told(8), 2);
        x.mend(0, 0);
        due("no wire leaks now", x.told(8), 0);
        due("no wire leaks now: set", x.end(2, 2), 0);
        due("no wire leaks now: first", x.end(2, 3), NONE);
        x.mend(1, 2);
        due("another leaks now", x.end(2, 2), 2);
        x.mend(1, 3);
        x.mend(0, 2);
        x.touch(0, 1, true);
        due("the flaky one does not pass in the hour of then", x.end(2, 2), 1);
        x.undo();
        x.mend(1, 0);
        x.touch(0, 1, true);
        due("the leak touches another", x.end(2, 2), 3);

        FarEnds y = Check.cable("c1,2,0;");
        y.tie(0, 1);
        y.tie(2, 1);
        y.cross();
        y.see(0, 1, false);
        y.see(1, 2, true);
        due("tied: orders", y.told(8), 2);
        due("tied: set of 0", y.end(0, 2), 2);
        y.cross();
        y.tie(0, 0);
        due("untied since: orders", y.told(8), 2);
        y.goBack(0);
        y.see(0, 1, true);
        due("near ends that are not joined", y.told(8), 0);
    }

    // Promise 8
    private static void net() {
        FarEnds x = Check.cable(FOUR);
        due("net(0, 0)", x.net(0, 0), 1 + 4 + 32 + 64);
        due("net(1, 0)", x.net(1, 0), 1 + 4 + 32 + 64);
        due("net(0, 1)", x.net(0, 1), 2 + 256 + 1024);
        due("net(0, 3)", x.net(0, 3), 8 + 128);
        x.rest(1);
        due("net(0, 3) in hour 1", x.net(0, 3), 8);
        due("net(1, 2) in hour 1", x.net(1, 2), 128);
        x.mend(1, 1);
        due("net(0, 1) broken", x.net(0, 1), 2);
        due("net(1, 3) broken", x.net(1, 3), 256);
        due("net(0, 4)", x.net(0, 4), UNKNOWN);
        due("net(2, 4)", x.net(2, 4), UNKNOWN);
        due("net(1, -1)", x.net(1, -1), UNKNOWN);
        due("net(2, 0)", x.net(2, 0), OUTSIDE);
        due("net(-1, 0)", x.net(-1, 0), OUTSIDE);
        FarEnds y = Check.cable("c0,1,2,3,4;k0 2;k4 2;");
        due("two that leak are joined by earth", y.net(0, 0), 1 + 16 + 32 + 512 + 1024);
    }

    // Promise 9
    private static void rings() {
        FarEnds x = Check.cable(FOUR);
        due("rings(0, 2)", x.rings(0, 2), 1);
        due("rings(2, 0)", x.rings(2, 0), 1);
        due("rings(0, 1)", x.rings(0, 1), 0);
        due("rings(1, NONE)", x.rings(1, NONE), 1);
        due("rings(3, NONE)", x.rings(3, NONE), 0);
        x.cross();
        due("far: rings(0, 1)", x.rings(0, 1), 1);
        due("far: rings(0, 2)", x.rings(0, 2), 0);
        due("far: rings(3, NONE)", x.rings(3, NONE), 1);
        due("rings(1, 1)", x.rings(1, 1), UNKNOWN);
        due("rings(NONE, 1)", x.rings(NONE, 1), UNKNOWN);
        due("rings(NONE, NONE)", x.rings(NONE, NONE), UNKNOWN);
        due("rings(4, NONE)", x.rings(4, NONE), UNKNOWN);
        due("rings(0, 4)", x.rings(0, 4), UNKNOWN);
        due("rings(0, -2)", x.rings(0, -2), UNKNOWN);
        due("tests are not counted", x.told(4), 0);
    }

    // Promise 10
    private static void touches() {
        FarEnds x = Check.cable("c2,0,3,1,4;s3 4;");
        due("touches(3, 4)", x.touches(3, 4), 1);
        due("touches(4, 3)", x.touches(4, 3), 1);
        due("touches(0, 1)", x.touches(0, 1), 0);
        due("touches(3, 3)", x.touches(3, 3), UNKNOWN);
        due("touches(0, NONE)", x.touches(0, NONE), UNKNOWN);
        due("touches(5, 0)", x.touches(5, 0), UNKNOWN);
        due("touches(0, 5)", x.touches(0, 5), UNKNOWN);
    }

    // Promise 11
    private static void tie() {
        FarEnds x = Check.cable("c1,0,2;");
        due("tie(0, 3)", x.tie(0, 3), 0);
        due("tie(0, 3) again", x.tie(0, 3), NOT);
        due("tie(0, 1)", x.tie(0, 1), 3);
        due("tie(1, 0) of one that is not tied", x.tie(1, 0), NOT);
        due("tie(2, 1)", x.tie(2, 1), 0);
        due("tied ends ring", x.rings(0, 2), 1);
        due("untied ends do not, though both in group 0", x.rings(1, 0), 0);
        x.cross();
        due("far: tie(0, 1)", x.tie(0, 1), 0);
        due("far: group 1 here is not group 1 there", x.rings(0, 2), 0);
        due("far: group", x.end(0, 1), 1);
        due("near: group stays", x.wire(0, 3), 1);
        x.cross();
        due("tie(0, 0)", x.tie(0, 0), 1);
        due("untied", x.rings(0, 2), 0);
        due("tie(3, 9)", x.tie(3, 9), UNKNOWN);
        due("tie(-1, 1)", x.tie(-1, 1), UNKNOWN);
        due("tie(0, 4)", x.tie(0, 4), OUTSIDE);
        due("tie(0, -1)", x.tie(0, -1), OUTSIDE);
    }

    // Promise 12
    private static void cross() {
        FarEnds x = Check.cable("c1,0;");
        due("cross()", x.cross(), 1);
        due("place", x.told(1), 1);
        due("cross() back", x.cross(), 2);
        due("place back", x.told(1), 0);
        due("crosses", x.told(3), 2);
        for (int i = 0; i < 149; i++) {
            x.rest(60);
        }
        due("rest(58) to hour 9000", x.rest(58), 9000);
        due("cross() in hour 9000", x.cross(), 9001);
        due("cross() in hour 9001", x.cross(), FULL);
        due("place stays", x.told(1), 1);
        due("cross() without a cable", new FarEnds().cross(), NOT);
    }

    // Promise 13
    private static void test() {
        FarEnds x = Check.cable(FOUR);
        due("test(0, 2)", x.test(0, 2), 1);
        due("test(0, 1)", x.test(0, 1), 0);
        due("test(1, NONE)", x.test(1, NONE), 1);
        due("test(0, NONE)", x.test(0, NONE), 0);
        due("tests", x.told(4), 4);
        due("test(0, 0)", x.test(0, 0), UNKNOWN);
        due("test(4, 0)", x.test(4, 0), UNKNOWN);
        due("test(0, 4)", x.test(0, 4), UNKNOWN);
        due("test(NONE, 0)", x.test(NONE, 0), UNKNOWN);
        due("tests stay", x.told(4), 4);
        due("hours stay", x.told(2), 0);
        x.cross();
        due("far: test(0, 1)", x.test(0, 1), 1);
        due("nothing is seen by it", x.told(11), 0);
    }

    // Promise 14
    private static void rest() {
        FarEnds x = Check.cable("c1,0;");
        due("rest(0)", x.rest(0), OUTSIDE);
        due("rest(61)", x.rest(61), OUTSIDE);
        due("rest(1)", x.rest(1), 1);
        due("rest(60)", x.rest(60), 61);
        for (int i = 0; i < 148; i++) {
            x.rest(60);
        }
        due("rest(59)", x.rest(59), 9000);
        due("rest(60) in hour 9000", x.rest(60), 9060);
        due("rest(1) in hour 9060", x.rest(1), FULL);
        due("rest(0) in hour 9060", x.rest(0), OUTSIDE);
        due("drift(1) in hour 9060", x.drift(1), FULL);
        due("drift(0) in hour 9060", x.drift(0), OUTSIDE);
        due("rest(1) without a cable", new FarEnds().rest(1), NOT);
        due("rest(0) without a cable", new FarEnds().rest(0), OUTSIDE);
    }

    // Promise 15
    private static void mend() {
        FarEnds x = Check.cable("c1,0;k0 1;");
        due("mend(0, 1)", x.mend(0, 1), NOT);
        due("mend(0, 2)", x.mend(0, 2), 1);
        due("mend(0, 0)", x.mend(0, 0), 2);
        due("mend(1, 3)", x.mend(1, 3), 0);
        due("kind", x.wire(1, 0), 3);
        due("mend(2, 9)", x.mend(2, 9), UNKNOWN);
        due("mend(-1, 0)", x.mend(-1, 0), UNKNOWN);
        due("mend(0, 4)", x.mend(0, 4), OUTSIDE);
        due("mend(0, -1)", x.mend(0, -1), OUTSIDE);
    }

    // Promise 16
    private static void touch() {
        FarEnds x = Check.cable("c1,0,2;s0 1;");
        due("touch(0, 1, true)", x.touch(0, 1, true), NOT);
        due("touch(2, 1, false)", x.touch(2, 1, false), NOT);
        due("touch(2, 1, true)", x.touch(2, 1, true), 2);
        due("it is so now", x.touches(1, 2), 1);
        due("touch(1, 0, false)", x.touch(1, 0, false), 1);
        due("it is no more", x.touches(0, 1), 0);
        due("touch(1, 1, true)", x.touch(1, 1, true), UNKNOWN);
        due("touch(0, 3, true)", x.touch(0, 3, true), UNKNOWN);
        due("touch(NONE, 0, true)", x.touch(NONE, 0, true), UNKNOWN);
        due("touch(0, NONE, false)", x.touch(0, NONE, false), UNKNOWN);
    }

    // Promise 17; the draws are told by hand from the seed
    private static void drift() {
        FarEnds x = Check.cable("c1,0,2;");
        due("drift(0)", x.drift(0), OUTSIDE);
        due("drift(61)", x.drift(61), OUTSIDE);
        due("drift(0) without a cable", new FarEnds().drift(0), OUTSIDE);
        due("drift(60) without a cable", new FarEnds().drift(60), NOT);
        long seed = 0;
        int[] counts = new int[4];
        for (int hour = 1; hour <= 60; hour++) {
            long first = next(seed);
            long second = next(first);
            long third = next(second);
            int what = (int) (first / 65536 % 4);
            int i = (int) (second / 65536 % 3);
            int there = x.told(1);
            int tests = x.told(4);
            int crosses = x.told(3);
            due("drift(1) to hour " + hour, x.drift(1), hour);
            counts[what]++;
            if (what == 0) {
                due("drift: group", there == 0 ? x.wire(i, 3) : x.end(i, 1), (int) (third / 65536 % 4));
            } else if (what == 3) {
                due("drift: kind", x.wire(i, 0), (int) (third / 65536 % 4));
            }
            boolean isTest = what == 1 && third / 65536 % 3 != i;
            due("drift: tests", x.told(4), tests + (isTest ? 1 : 0));
            due("drift: crosses", x.told(3), crosses + (what == 2 ? 1 : 0));
            due("drift: place", x.told(1), what == 2 ? 1 - there : there);
            seed = what == 2 ? second : third;
            due("drift: seed", x.seed((int) seed), (int) seed);
        }
        CHECK.holds("drift: each of the four was drawn", counts[0] * counts[1] * counts[2] * counts[3] > 0);
        FarEnds y = Check.cable("c1,0,2;");
        due("drift(60) at once", y.drift(60), 60);
        for (int what = 0; what <= 4; what++) {
            due("drift(60) at once: told(" + what + ")", y.told(what), x.told(what));
        }
        due("drift(60) at once: the seed", y.seed(0), (int) seed);
        due("drift(60) at once is undone at once", y.undo(), 0);
        due("hours ahead of it", y.told(2), 0);
    }

    private static long next(long seed) {
        return (seed * 1103515245L + 12345L) % 2147483648L;
    }

    // Promise 18
    private static void undo() {
        FarEnds x = Check.cable("c1,0,2;");
        due("undo() of nothing", x.undo(), NOT);
        x.seed(9);
        x.tie(0, 2);
        x.cross();
        x.test(0, 1);
        x.rest(7);
        x.mend(2, 1);
        x.touch(0, 1, true);
        x.drift(9);
        int seed = x.seed(9);
        x.seed(seed);
        x.see(0, 1, true);
        x.write(0, 0);
        due("undo() of drift", x.undo(), 6);
        due("the seed stays", x.seed(seed), seed);
        due("hours", x.told(2), 8);
        due("undo() of touch", x.undo(), 5);
        due("touching", x.told(6), 0);
        due("undo() of mend", x.undo(), 4);
        due("kind", x.wire(2, 0), 0);
        due("undo() of rest", x.undo(), 3);
        due("hours", x.told(2), 1);
        due("undo() of test", x.undo(), 2);
        due("tests", x.told(4), 0);
        due("undo() of cross", x.undo(), 1);
        due("place", x.told(1), 0);
        due("crosses", x.told(3), 0);
        due("hours", x.told(2), 0);
        due("undo() of tie", x.undo(), 0);
        due("group", x.wire(0, 3), 0);
        due("seen stays", x.told(11), 1);
        due("book stays", x.told(12), 1);
        due("undo() of no more", x.undo(), NOT);
        for (int i = 0; i < 20; i++) {
            x.rest(1);
            due("undone at most 16", x.told(13), Math.min(i + 1, 16));
        }
        x.tie(0, 0);
        due("refused is not undone", x.told(13), 16);
        for (int i = 15; i >= 0; i--) {
            due("undo() of 16", x.undo(), i);
            due("hours", x.told(2), i + 4);
        }
        due("the oldest are lost", x.undo(), NOT);
        due("hours of the oldest", x.told(2), 4);
    }

    // Promise 19
    private static void cut() {
        FarEnds x = Check.cable(FIVE);
        x.tie(0, 1);
        x.tie(1, 1);
        x.cross();
        due("cut(2, 1): the least of two", x.cut(2, 1), 1);
        due("cut(1, 2)", x.cut(1, 2), 1);
        due("cut(0, 4) of what does not ring", x.cut(0, 4), 0);
        due("cut(0, 0)", x.cut(0, 0), UNKNOWN);
        due("cut(0, NONE)", x.cut(0, NONE), UNKNOWN);
        due("cut(NONE, 0)", x.cut(NONE, 0), UNKNOWN);
        due("cut(0, 5)", x.cut(0, 5), UNKNOWN);
        x.tie(1, 2);
        x.tie(2, 2);
        due("cut(1, 2) of ends tied here", x.cut(1, 2), NONE);
        due("kinds stay", x.wire(0, 0), 0);

        // far ends 0 and 1 are of wires 0 and 1, each way from near to far is doubled
        FarEnds y = Check.cable("c0,1,2,3,4;s0 1;s0 2;");
        y.cross();
        y.tie(0, 1);
        y.tie(3, 1);
        due("cut(3, 1): wire 1 or 0 alone", y.cut(3, 1), 1);
        y.tie(2, 1);
        due("cut(3, 1): two ways to the near end, one from it", y.cut(3, 1), 2);
        y.tie(1, 2);
        y.tie(4, 2);
        y.cross();
        y.touch(4, 1, true);
        y.cross();
        due("cut(3, 4): two against two, the least set", y.cut(3, 4), 5);
    }

    /** A wire that is broken leaks no more. */
    private static void cutOfLeaks() {
        FarEnds x = Check.cable("c0,1,2;k1 2;k2 2;");
        due("rings by earth", x.rings(1, 2), 1);
        due("cut(1, 2) of two that leak", x.cut(1, 2), 2);
        due("cut(0, 1)", x.cut(0, 1), 0);
    }

    private static void ask() {
        FarEnds x = Check.cable("c0,1,2,3;");
        due("nothing tied: none parts", x.told(9), NONE);
        x.tie(0, 1);
        x.tie(1, 1);
        x.cross();
        due("all pairs are alike: the least", x.told(9), 1);
        x.see(0, 1, false);
        due("20 left: of 0 or 1 with 2 or 3 is like", x.told(9), 2);
        x.see(0, 2, false);
        due("16 orders are left", x.told(8), 16);
        due("0 with 3 rings by 4, 1 with 2 too", x.told(9), 3);
        x.cross();
        due("at the near place nothing is parted", x.told(9), NONE);
        x.tear();
        x.see(0, 1, false);
        due("no order at all", x.told(8), 0);
        due("no order: none parts", x.told(9), NONE);
    }

    private static void left() {
        FarEnds x = Check.cable("c3,1,0,2,4;");
        due("nothing tied: all are left", x.told(10), 120);
        x.tie(0, 1);
        x.tie(1, 1);
        due("near ends tell nothing", x.told(10), 120);
        x.cross();
        due("one pair tied: 2 times 6", x.told(10), 12);
        x.see(0, 1, true);
        due("what is seen does not matter", x.told(10), 12);
        x.mend(3, 2);
        due("one is told by earth", x.told(10), 4);
        x.mend(0, 1);
        due("one of the tied pair broken", x.told(10), 24);
    }

    // Promise 20
    private static void ties() {
        FarEnds x = Check.cable(FIVE);
        int[] want = {0, 0, 1, 1, 2};
        due("ties(NONE) of five sound", x.ties(NONE), 8);
        for (int i = 0; i < 5; i++) {
            due("ties(" + i + ")", x.ties(i), want[i]);
        }
        due("ties(5)", x.ties(5), UNKNOWN);
        due("ties(-2)", x.ties(-2), UNKNOWN);
        due("ties(NONE) without a cable", new FarEnds().ties(NONE), NOT);
        due("ties(0) without a cable", new FarEnds().ties(0), UNKNOWN);
        x.cross();
        x.tie(0, 1);
        x.tie(3, 1);
        due("ties at the far end are as if there were none", x.ties(NONE), 8);
        due("what is tied stays", x.end(3, 1), 1);

        FarEnds y = Check.cable("c0,1;");
        due("ties(NONE) of two", y.ties(NONE), 2);
        due("ties(1) of two: the first way", y.ties(1), 0);
        FarEnds z = Check.cable("c1,0,2;k0 3;k2 2;");
        due("in an even hour one leaks: 0 is told by it, too", z.ties(NONE), 2);
        due("ties(0) of it", z.ties(0), 0);
        due("ties(1) of it", z.ties(1), 0);
        due("ties(2) of it", z.ties(2), 1);
        z.mend(2, 0);
        due("three sound in an even hour", z.ties(NONE), 2);
        due("ties(2) of it", z.ties(2), 1);
        z.rest(1);
        due("0 does not pass in an odd hour", z.ties(NONE), 2);
        due("ties(2) of it", z.ties(2), 0);
    }

    // Promise 21
    private static void dry() {
        FarEnds x = new FarEnds();
        due("dry(0, 0)", x.dry(0, 0), 1000000000);
        due("dry(1, 0)", x.dry(1, 0), 0);
        due("dry(60, 100)", x.dry(60, 100), 1000000000);
        due("dry(1, 37)", x.dry(1, 37), 370000000);
        due("dry(2, 37)", x.dry(2, 37), 136900000);
        due("dry(5, 1)", x.dry(5, 1), 0);
        due("dry(11, 33): cut each night", x.dry(11, 33), 5053);
        due("dry(6, 99): cut each night", x.dry(6, 99), 941480148);
        due("dry(-1, 5)", x.dry(-1, 5), OUTSIDE);
        due("dry(61, 5)", x.dry(61, 5), OUTSIDE);
        due("dry(5, -1)", x.dry(5, -1), OUTSIDE);
        due("dry(5, 101)", x.dry(5, 101), OUTSIDE);
    }

    // Promise 22
    private static void see() {
        FarEnds x = Check.cable("c1,0,2;");
        due("see(0, 0)", x.see(0, 0, false), UNKNOWN);
        due("see(3, 0)", x.see(3, 0, false), UNKNOWN);
        due("see(0, 3)", x.see(0, 3, false), UNKNOWN);
        due("see(NONE, 0)", x.see(NONE, 0, false), UNKNOWN);
        for (int i = 1; i <= 8; i++) {
            due("see(0, 1) " + i, x.see(0, i % 2 == 0 ? NONE : 1, false), i);
        }
        due("see(0, 1) 9", x.see(0, 1, false), FULL);
        due("see(0, 3) 9", x.see(0, 3, false), UNKNOWN);
        due("seen", x.told(11), 8);
        due("all orders fit", x.told(8), 6);
        due("it is no test", x.told(4), 0);
        due("it cannot be undone", x.undo(), NOT);
    }

    // Promise 23
    private static void write() {
        FarEnds x = Check.cable("c1,0,2;");
        due("write(3, 0)", x.write(3, 0), UNKNOWN);
        due("write(0, 3)", x.write(0, 3), UNKNOWN);
        due("write(NONE, 0)", x.write(NONE, 0), UNKNOWN);
        due("write(0, NONE)", x.write(0, NONE), UNKNOWN);
        for (int i = 1; i <= 15; i++) {
            due("write(2, 2) " + i, x.write(2, 2), i);
        }
        due("write(2, 2) 16", x.write(2, 2), FULL);
        due("write(3, 2) 16", x.write(3, 2), UNKNOWN);
        due("entries", x.told(12), 15);
    }

    // Promise 24
    private static void tear() {
        FarEnds x = Check.cable("c1,0,2;");
        due("tear() of nothing", x.tear(), 0);
        x.see(0, 1, true);
        x.write(0, 0);
        x.write(0, 1);
        due("tear()", x.tear(), 3);
        due("seen", x.told(11), 0);
        due("entries", x.told(12), 0);
        due("judge()", x.judge(), NONE);
        due("orders", x.told(8), 6);
        due("tear() again", x.tear(), 0);
    }

    // Promise 25
    private static void judge() {
        FarEnds x = Check.cable("c1,0,2;");
        due("judge() of no book", x.judge(), NONE);
        x.write(2, 2);
        x.write(0, 1);
        x.write(0, 1);
        due("judge() of what is so", x.judge(), NONE);
        x.write(1, 1);
        x.write(0, 2);
        due("judge()", x.judge(), 3);
        x.tear();
        x.write(0, 0);
        due("judge() of the first", x.judge(), 0);
    }

    // Promise 26
    private static void seed() {
        FarEnds x = new FarEnds();
        due("seed(2147483647)", x.seed(2147483647), 0);
        due("seed(-1)", x.seed(-1), OUTSIDE);
        due("seed(MIN)", x.seed(Integer.MIN_VALUE), OUTSIDE);
        due("seed(0)", x.seed(0), 2147483647);
        due("seed(5)", x.seed(5), 0);
        FarEnds y = Check.cable("c1,0;");
        y.seed(2147483647);
        y.drift(1);
        CHECK.holds("a seed at its greatest draws on within its bounds", y.seed(0) >= 0);
    }

    // Promise 27
    private static void keep() {
        FarEnds x = Check.cable("c1,0,2;");
        due("keep(-1)", x.keep(-1), UNKNOWN);
        due("keep(2)", x.keep(2), UNKNOWN);
        x.tie(0, 1);
        due("a refused keep leaves what can be undone", x.told(13), 1);
        due("keep(1)", x.keep(1), 1);
        due("nothing can be undone", x.told(13), 0);
        due("undo()", x.undo(), NOT);
        x.tie(0, 2);
        due("keep(1) again", x.keep(1), 1);
        x.tie(0, 3);
        due("goBack(0)", x.goBack(0), NOT);
        due("goBack(1)", x.goBack(1), 1);
        due("the later one was kept", x.wire(0, 3), 2);
    }

    // Promise 28
    private static void goBack() {
        FarEnds x = Check.cable("c1,0,2;");
        due("goBack(-1)", x.goBack(-1), UNKNOWN);
        due("goBack(2)", x.goBack(2), UNKNOWN);
        due("goBack(0)", x.goBack(0), NOT);
        x.seed(11);
        x.tie(0, 1);
        x.cross();
        x.tie(1, 2);
        x.test(0, 1);
        x.mend(2, 1);
        x.touch(0, 2, true);
        x.rest(4);
        x.keep(0);
        x.seed(12);
        x.cross();
        x.tie(0, 3);
        x.test(0, 1);
        x.mend(2, 0);
        x.touch(0, 2, false);
        x.see(0, 1, true);
        x.write(0, 0);
        x.keep(1);
        x.drift(30);
        due("goBack(0)", x.goBack(0), 1);
        due("nothing can be undone", x.undo(), NOT);
        due("place", x.told(1), 1);
        due("hours", x.told(2), 5);
        due("crosses", x.told(3), 1);
        due("tests", x.told(4), 1);
        due("touching", x.told(6), 1);
        due("kind", x.wire(2, 0), 1);
        due("near group", x.wire(0, 3), 1);
        due("far group", x.end(1, 1), 2);
        due("seen stays", x.told(11), 1);
        due("book stays", x.told(12), 1);
        due("the seed of the image", x.seed(5), 11);
        due("goBack(1)", x.goBack(1), 1);
        due("near group of the other", x.wire(0, 3), 3);
        due("the seed of the other", x.seed(5), 12);
        due("goBack(0) a second time", x.goBack(0), 1);
        due("kind a second time", x.wire(2, 0), 1);
        x.rest(1);
        due("goBack(1) leaves nothing to undo", x.goBack(1), 1);
        due("told(13)", x.told(13), 0);
    }

    private static void refusedChangesNothing() {
        FarEnds x = Check.cable(FOUR);
        x.tie(0, 1);
        int[] ahead = all(x);
        x.tie(0, 1);
        x.tie(9, 1);
        x.tie(0, 9);
        x.test(0, 0);
        x.rest(0);
        x.drift(61);
        x.mend(0, 0);
        x.mend(0, 7);
        x.touch(0, 2, true);
        x.touch(0, 0, true);
        x.see(0, 0, true);
        x.write(0, 9);
        x.seed(-5);
        x.keep(3);
        x.goBack(0);
        x.feed(999);
        int[] behind = all(x);
        for (int i = 0; i < ahead.length; i++) {
            due("refused: number " + i, behind[i], ahead[i]);
        }
        due("refused: the seed", x.seed(0), 0);
    }

    private static int[] all(FarEnds x) {
        int[] all = new int[14 + 4 * 8];
        for (int what = 0; what < 14; what++) {
            all[what] = x.told(what);
        }
        for (int i = 0; i < 4; i++) {
            for (int what = 0; what < 4; what++) {
                all[14 + 8 * i + what] = x.wire(i, what);
                all[18 + 8 * i + what] = x.end(i, what);
            }
        }
        return all;
    }
}
