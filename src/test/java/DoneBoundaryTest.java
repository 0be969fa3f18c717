import java.math.BigInteger;

/** Promises 11 to 18, what is done: each sentence that names a boundary, at it and one step to either side. */
public final class DoneBoundaryTest {
    private static final int NONE = -1, UNKNOWN = -1000000001, OUTSIDE = -1000000002, NOT = -1000000003, FULL = -1000000004;
    private static final Check CHECK = new Check("DoneBoundaryTest");
    private static final Twins TWINS = new Twins(CHECK);
    private static final int MIN = Integer.MIN_VALUE, MAX = Integer.MAX_VALUE;
    private static final String[] ORDERS = {"", "", "c1,0;", "c2,0,1;", "c3,1,0,2;", "c4,2,0,3,1;"};

    public static void main(String[] args) {
        endsToTie();
        groupsToTie();
        tiedSoAlready();
        crossWithoutCable();
        crossLate();
        endsToTest();
        testsAreCounted();
        testsStop();
        crossesStayBelow();
        hoursToRest();
        restWithoutCable();
        restLate();
        wiresToMend();
        kindsToMend();
        mendedSoAlready();
        wiresToTouch();
        touchSoAlready();
        hoursToDrift();
        driftWithoutCable();
        driftLate();
        driftByHand();
        driftByEverySize();
        undoOfNone();
        undoOfEach();
        undoAtMostSixteen();
        undoOfNothingElse();
        undoOfNothingRefused();
        undoKeepsTheSeed();
        undoOverTheBrim();
        CHECK.end();
    }

    private static void due(String call, int got, int want) {
        CHECK.due(call, got, want);
    }

    private static Twins.Deed cable(String text) {
        return x -> {
            Check.feed(x, text);
            x.cable();
        };
    }

    // ---- Promise 11

    // "UNKNOWN": an end that there is not
    private static void endsToTie() {
        for (int n = 2; n <= 5; n++) {
            for (int i : new int[] {MIN, -2, -1, n, n + 1, MAX}) {
                TWINS.refused("11 tie(" + i + ", 1) of " + n, cable(ORDERS[n]), x -> x.tie(i, 1), UNKNOWN);
            }
            FarEnds x = Check.cable(ORDERS[n]);
            due("11 tie(0, 1) of " + n, x.tie(0, 1), 0);
            due("11 tie(n - 1, 1) of " + n, x.tie(n - 1, 1), 0);
            due("9 tied ends of " + n + " ring", x.rings(0, n - 1), 1);
            x.cross();
            due("11 far: tie(n - 1, 3) of " + n, x.tie(n - 1, 3), 0);
            due("7 far: group of the last of " + n, x.end(n - 1, 1), 3);
            due("6 near: group of the last of " + n, x.wire(n - 1, 3), 1);
        }
        TWINS.refused("11 far: tie(4, 1)", Twins::busy, x -> x.tie(4, 1), UNKNOWN);
        TWINS.refused("11 tie(0, 1) without a cable", Twins::nothing, x -> x.tie(0, 1), UNKNOWN);
        TWINS.refused("11 tie(0, 0) without a cable", Twins::nothing, x -> x.tie(0, 0), UNKNOWN);
    }

    // "TIED (GROUPS 0 .. 3): in which GROUP it was. .. OUTSIDE"
    private static void groupsToTie() {
        for (int group : new int[] {MIN, -2, -1, 4, 5, 8, MAX}) {
            TWINS.refused("11 far: tie(1, " + group + ")", Twins::busy, x -> x.tie(1, group), OUTSIDE);
            TWINS.refused("11 near: tie(0, " + group + ")", cable(ORDERS[2]), x -> x.tie(0, group), OUTSIDE);
        }
        FarEnds x = Check.cable(ORDERS[5]);
        int was = 0;
        for (int group : new int[] {3, 0, 1, 3, 2, 1, 2, 0}) {
            due("11 tie(4, " + group + ")", x.tie(4, group), was);
            due("6 wire(4, 3)", x.wire(4, 3), group);
            due("6 wire(3, 3), its neighbour", x.wire(3, 3), 0);
            was = group;
        }
    }

    // "NOT: it is in that one."
    private static void tiedSoAlready() {
        for (int place = 0; place <= 1; place++) {
            for (int group = 0; group <= 3; group++) {
                int here = group;
                int walks = place;
                Twins.Deed ahead = Twins.then(cable(ORDERS[3]), x -> {
                    for (int i = 0; i < walks; i++) {
                        x.cross();
                    }
                    x.tie(2, here);
                });
                TWINS.refused("11 at " + place + " tie(2, " + group + ") again", ahead, x -> x.tie(2, here), NOT);
                FarEnds x = new FarEnds();
                ahead.on(x);
                due("11 at " + place + " tie(2) into the next", x.tie(2, (group + 1) % 4), group);
            }
        }
        FarEnds x = Check.cable(ORDERS[2]);
        x.tie(0, 2);
        x.cross();
        due("11 far: tie(0, 2), as the near end is", x.tie(0, 2), 0);
        due("11 far: tie(0, 2) again", x.tie(0, 2), NOT);
    }

    // ---- Promise 12

    // "NOT: no CABLE"
    private static void crossWithoutCable() {
        TWINS.refused("12 cross() without a cable", Twins::nothing, x -> x.cross(), NOT);
        FarEnds x = Check.cable(ORDERS[2]);
        due("12 cross() with a cable", x.cross(), 1);
        x.cable();
        due("12 cross() with none again", x.cross(), NOT);
    }

    // "FULL: HOURS are above 9000."
    private static void crossLate() {
        for (int hour : new int[] {9001, 9002, 9060}) {
            Twins.Deed late = hour > 9050 ? x -> lastHour(x) : Twins.then(Twins.busyUntil(9000), x -> x.rest(hour - 9000));
            TWINS.refused("12 cross() in hour " + hour, late, x -> x.cross(), FULL);
        }
        FarEnds x = Check.cable(ORDERS[2]);
        Twins.waitUntil(x, 8999);
        due("12 cross() in hour 8999", x.cross(), 9000);
        due("12 cross() in hour 9000", x.cross(), 9001);
        due("12 cross() in hour 9001", x.cross(), FULL);
        due("5 place stays", x.told(1), 0);
        due("5 hours stay", x.told(2), 9001);
        due("5 crosses stay", x.told(3), 2);
        due("18 undo()", x.undo(), 15);
        due("12 cross() in hour 9000 again", x.cross(), 9001);
    }

    private static void lastHour(FarEnds x) {
        Twins.busyUntil(9000).on(x);
        x.rest(60);
    }

    // ---- Promise 13

    // "(b = NONE: EARTH) .. UNKNOWN."
    private static void endsToTest() {
        int[][] wrong = {{-1, 0}, {-1, -1}, {-2, -1}, {0, -2}, {0, 0}, {3, 3}, {4, 0}, {0, 4}, {4, -1}, {4, 4},
            {MIN, 0}, {0, MIN}, {MAX, 0}, {0, MAX}};
        for (int[] pair : wrong) {
            String name = "13 test(" + pair[0] + ", " + pair[1] + ")";
            TWINS.refused(name, Twins::busy, x -> x.test(pair[0], pair[1]), UNKNOWN);
            TWINS.refused(name + " without a cable", Twins::nothing, x -> x.test(pair[0], pair[1]), UNKNOWN);
        }
        TWINS.refused("13 test(0, 1) without a cable", Twins::nothing, x -> x.test(0, 1), UNKNOWN);
        TWINS.refused("13 test(0, NONE) without a cable", Twins::nothing, x -> x.test(0, NONE), UNKNOWN);
        for (int n = 2; n <= 5; n++) {
            FarEnds x = Check.cable(ORDERS[n] + "k0 2;s0 " + (n - 1) + ";");
            due("13 test(n - 1, 0) of " + n, x.test(n - 1, 0), 1);
            due("13 test(n - 1, NONE) of " + n, x.test(n - 1, NONE), 1);
            due("13 test(n, 0) of " + n, x.test(n, 0), UNKNOWN);
            due("13 test(0, n) of " + n, x.test(0, n), UNKNOWN);
            due("5 tests of " + n, x.told(4), 2);
        }
    }

    // "A TEST ..: 1 it RINGS, 0 not"; section 2: "TESTS .. are one more"
    private static void testsAreCounted() {
        FarEnds x = Check.cable("c1,0,2;k0 2;");
        due("5 no test", x.told(4), 0);
        due("13 test(0, NONE) rings", x.test(0, NONE), 1);
        due("5 one test", x.told(4), 1);
        due("13 test(1, NONE) does not", x.test(1, NONE), 0);
        due("5 two tests, though one did not ring", x.told(4), 2);
        due("5 hours stay", x.told(2), 0);
        due("9 rings(0, NONE) is no test", x.rings(0, NONE), 1);
        due("5 two tests still", x.told(4), 2);
    }

    /** Behind 512 calls answers are free, and no run of 512 comes so far; but the bound is told, so it is kept. */
    // Section 2: "TESTS (counted, 9999 at most)"
    private static void testsStop() {
        FarEnds x = Check.cable("c1,0,2;");
        for (int i = 1; i <= 9997; i++) {
            x.test(0, 1);
        }
        due("5 tests", x.told(4), 9997);
        for (int want : new int[] {9998, 9999, 9999, 9999}) {
            due("13 test()", x.test(0, 1), 0);
            due("5 tests", x.told(4), want);
        }
        due("13 a test beyond is done, and can be undone", x.undo(), 15);
        due("5 tests ahead of it", x.told(4), 9999);
        x.drift(60);
        due("17 drift() at most", x.told(4), 9999);
        for (int i = 0; i < 3; i++) {
            x.undo();
        }
        due("5 tests undone", x.told(4), 9998);
        x.drift(60);
        due("17 drift() to the most", x.told(4), 9999);
    }

    // Section 2: "(counted, 9999 at most), HOURS .. are one more": each walk takes an hour, so hours are full first
    private static void crossesStayBelow() {
        FarEnds x = Check.cable("c1,0,2;");
        for (int i = 1; i <= 9001; i++) {
            due("12 cross() " + i, x.cross(), i);
        }
        due("5 crosses", x.told(3), 9001);
        due("12 cross() once more", x.cross(), FULL);
        due("5 crosses stay", x.told(3), 9001);
        due("5 place: an odd number of walks", x.told(1), 1);
        x.undo();
        due("5 crosses undone", x.told(3), 9000);
        x.drift(60);
        due("5 crosses by draws are below 9999", x.told(3) > 9000 && x.told(3) <= 9060 ? 1 : 0, 1);
    }

    // ---- Promise 14

    // "RESTS n HOURS (1 .. 60): HOURS. OUTSIDE"
    private static void hoursToRest() {
        for (int n : new int[] {MIN, -60, -1, 0, 61, 62, MAX}) {
            TWINS.refused("14 rest(" + n + ")", Twins::busy, x -> x.rest(n), OUTSIDE);
        }
        FarEnds x = Check.cable(ORDERS[2]);
        due("14 rest(1)", x.rest(1), 1);
        due("14 rest(2)", x.rest(2), 3);
        due("14 rest(59)", x.rest(59), 62);
        due("14 rest(60)", x.rest(60), 122);
        due("5 hours", x.told(2), 122);
        due("5 nobody crossed", x.told(3), 0);
    }

    // "NOT: no CABLE"
    private static void restWithoutCable() {
        TWINS.refused("14 rest(1) without a cable", Twins::nothing, x -> x.rest(1), NOT);
        TWINS.refused("14 rest(60) without a cable", Twins::nothing, x -> x.rest(60), NOT);
        TWINS.refused("14 rest(0) without a cable", Twins::nothing, x -> x.rest(0), OUTSIDE);
        TWINS.refused("14 rest(61) without a cable", Twins::nothing, x -> x.rest(61), OUTSIDE);
    }

    // "FULL: HOURS are above 9000."
    private static void restLate() {
        Twins.Deed late = Twins.busyUntil(9001);
        TWINS.refused("14 rest(1) in hour 9001", late, x -> x.rest(1), FULL);
        TWINS.refused("14 rest(60) in hour 9001", late, x -> x.rest(60), FULL);
        TWINS.refused("14 rest(0) in hour 9001", late, x -> x.rest(0), OUTSIDE);
        TWINS.refused("14 rest(61) in hour 9001", late, x -> x.rest(61), OUTSIDE);
        TWINS.refused("14 rest(1) in hour 9060", DoneBoundaryTest::lastHour, x -> x.rest(1), FULL);
        FarEnds x = Check.cable(ORDERS[2]);
        Twins.waitUntil(x, 8999);
        due("14 rest(1) in hour 8999", x.rest(1), 9000);
        due("14 rest(1) in hour 9000", x.rest(1), 9001);
        due("14 rest(1) in hour 9001", x.rest(1), FULL);
        x.undo();
        due("14 rest(60) in hour 9000", x.rest(60), 9060);
        due("14 rest(1) in hour 9060", x.rest(1), FULL);
        due("5 hours", x.told(2), 9060);
        due("11 ends can be tied late", x.tie(0, 1), 0);
        due("13 and tested", x.test(0, 1), 0);
        due("15 and wires mended", x.mend(0, 1), 0);
        due("16 and touched", x.touch(0, 1, true), 1);
    }

    // ---- Promise 15

    // "KIND (0 .. 3) of a WIRE: what it was. UNKNOWN"
    private static void wiresToMend() {
        for (int n = 2; n <= 5; n++) {
            for (int w : new int[] {MIN, -2, -1, n, n + 1, MAX}) {
                TWINS.refused("15 mend(" + w + ", 1) of " + n, cable(ORDERS[n]), x -> x.mend(w, 1), UNKNOWN);
            }
            FarEnds x = Check.cable(ORDERS[n]);
            due("15 mend(n - 1, 1) of " + n, x.mend(n - 1, 1), 0);
            due("6 wire(n - 1, 0) of " + n, x.wire(n - 1, 0), 1);
            due("6 wire(0, 0) of " + n, x.wire(0, 0), 0);
        }
        TWINS.refused("15 mend(0, 1) without a cable", Twins::nothing, x -> x.mend(0, 1), UNKNOWN);
        TWINS.refused("15 mend(0, 0) without a cable", Twins::nothing, x -> x.mend(0, 0), UNKNOWN);
    }

    // "OUTSIDE"
    private static void kindsToMend() {
        for (int kind : new int[] {MIN, -2, -1, 4, 5, 8, MAX}) {
            TWINS.refused("15 mend(1, " + kind + ")", Twins::busy, x -> x.mend(1, kind), OUTSIDE);
        }
        FarEnds x = Check.cable(ORDERS[5]);
        int was = 0;
        for (int kind : new int[] {3, 0, 1, 3, 2, 1, 2, 0}) {
            due("15 mend(4, " + kind + ")", x.mend(4, kind), was);
            due("6 wire(4, 0)", x.wire(4, 0), kind);
            due("6 wire(3, 0), its neighbour", x.wire(3, 0), 0);
            was = kind;
        }
    }

    // "NOT: it is so."
    private static void mendedSoAlready() {
        for (int kind = 0; kind <= 3; kind++) {
            int now = kind;
            Twins.Deed ahead = cable(ORDERS[3] + (kind == 0 ? "" : "k2 " + kind + ";"));
            TWINS.refused("15 mend(2, " + kind + ") as it is", ahead, x -> x.mend(2, now), NOT);
            FarEnds x = new FarEnds();
            ahead.on(x);
            due("15 mend(2) to the next", x.mend(2, (kind + 1) % 4), kind);
            due("15 mend(2) to it again", x.mend(2, (kind + 1) % 4), NOT);
        }
        TWINS.refused("15 mend(3, 0) as it is", Twins::busy, x -> x.mend(3, 0), NOT);
    }

    // ---- Promise 16

    // "UNKNOWN"
    private static void wiresToTouch() {
        int[][] wrong = {{-1, 0}, {0, -1}, {-1, -1}, {0, 0}, {3, 3}, {4, 0}, {0, 4}, {4, 4}, {MIN, 0}, {0, MAX}};
        for (int[] pair : wrong) {
            for (boolean is : new boolean[] {true, false}) {
                String name = "16 touch(" + pair[0] + ", " + pair[1] + ", " + is + ")";
                TWINS.refused(name, Twins::busy, x -> x.touch(pair[0], pair[1], is), UNKNOWN);
            }
        }
        TWINS.refused("16 touch(0, 1, true) without a cable", Twins::nothing, x -> x.touch(0, 1, true), UNKNOWN);
        TWINS.refused("16 touch(0, 1, false) without a cable", Twins::nothing, x -> x.touch(0, 1, false), UNKNOWN);
        for (int n = 2; n <= 5; n++) {
            FarEnds x = Check.cable(ORDERS[n]);
            due("16 touch(n - 1, 0, true) of " + n, x.touch(n - 1, 0, true), 1);
            due("16 touch(n, 0, true) of " + n, x.touch(n, 0, true), UNKNOWN);
            due("16 touch(n - 2, n - 1, true) of " + n, x.touch(n - 2, n - 1, true), n == 2 ? NOT : 2);
        }
    }

    // "Two TOUCH, or no more: how many pairs TOUCH. .. NOT: it is so."
    private static void touchSoAlready() {
        Twins.Deed all = cable("c0,1,2;s0 1;s1 2;s2 0;");
        Twins.Deed none = cable("c0,1,2;");
        for (int a = 0; a < 3; a++) {
            int one = a;
            int other = (a + 1) % 3;
            String pair = "(" + one + ", " + other + ", ";
            TWINS.refused("16 touch" + pair + "true) as it is", all, x -> x.touch(one, other, true), NOT);
            TWINS.refused("16 touch" + pair + "true) as it is, turned", all, x -> x.touch(other, one, true), NOT);
            TWINS.refused("16 touch" + pair + "false) as it is", none, x -> x.touch(one, other, false), NOT);
            TWINS.refused("16 touch" + pair + "false) as it is, turned", none, x -> x.touch(other, one, false), NOT);
        }
        FarEnds x = Check.cable("c0,1,2;s0 1;");
        due("16 touch(1, 0, false) to none", x.touch(1, 0, false), 0);
        due("16 touch(1, 0, false) of none", x.touch(1, 0, false), NOT);
        due("16 touch(0, 1, true) to one", x.touch(0, 1, true), 1);
        due("16 touch(1, 2, true) to two", x.touch(1, 2, true), 2);
        due("16 touch(2, 0, true) to all", x.touch(2, 0, true), 3);
        due("16 touch(0, 2, true) of all", x.touch(0, 2, true), NOT);
        due("16 touch(0, 2, false) to all but one", x.touch(0, 2, false), 2);
    }

    // ---- Promise 17

    // "n HOURS (1 .. 60) BY DRAWS: HOURS. OUTSIDE"
    private static void hoursToDrift() {
        for (int n : new int[] {MIN, -60, -1, 0, 61, 62, MAX}) {
            TWINS.refused("17 drift(" + n + ")", Twins::busy, x -> x.drift(n), OUTSIDE);
        }
        FarEnds x = Check.cable(ORDERS[3]);
        due("17 drift(1)", x.drift(1), 1);
        due("17 drift(2)", x.drift(2), 3);
        due("17 drift(59)", x.drift(59), 62);
        due("17 drift(60)", x.drift(60), 122);
        due("5 four can be undone", x.told(13), 4);
    }

    // "NOT: no CABLE", "n HOURS, if there is a CABLE"
    private static void driftWithoutCable() {
        TWINS.refused("17 drift(1) without a cable", Twins::nothing, x -> x.drift(1), NOT);
        TWINS.refused("17 drift(60) without a cable", Twins::nothing, x -> x.drift(60), NOT);
        TWINS.refused("17 drift(0) without a cable", Twins::nothing, x -> x.drift(0), OUTSIDE);
        TWINS.refused("17 drift(61) without a cable", Twins::nothing, x -> x.drift(61), OUTSIDE);
    }

    // "FULL: HOURS are above 9000."
    private static void driftLate() {
        Twins.Deed late = Twins.busyUntil(9001);
        TWINS.refused("17 drift(1) in hour 9001", late, x -> x.drift(1), FULL);
        TWINS.refused("17 drift(60) in hour 9001", late, x -> x.drift(60), FULL);
        TWINS.refused("17 drift(0) in hour 9001", late, x -> x.drift(0), OUTSIDE);
        TWINS.refused("17 drift(61) in hour 9001", late, x -> x.drift(61), OUTSIDE);
        TWINS.refused("17 drift(1) in hour 9060", DoneBoundaryTest::lastHour, x -> x.drift(1), FULL);
        FarEnds x = Check.cable(ORDERS[2]);
        Twins.waitUntil(x, 8999);
        due("17 drift(1) in hour 8999", x.drift(1), 9000);
        due("17 drift(1) in hour 9000", x.drift(1), 9001);
        due("17 drift(1) in hour 9001", x.drift(1), FULL);
        x.undo();
        due("17 drift(60) in hour 9000 goes on to its end", x.drift(60), 9060);
        due("17 drift(1) in hour 9060", x.drift(1), FULL);
    }

    /** One hour by draws, told again from the document in numbers without bounds. */
    private static final class Hour {
        private static final BigInteger TIMES = BigInteger.valueOf(1103515245), AND = BigInteger.valueOf(12345);
        static final BigInteger OVER = BigInteger.TWO.pow(31);
        BigInteger seed;

        Hour(int seed) {
            this.seed = BigInteger.valueOf(seed);
        }

        int draw(int n) {
            seed = seed.multiply(TIMES).add(AND).mod(OVER);
            return seed.intValue() / 65536 % n;
        }

        /** The seed of which a draw makes this one. */
        static int ahead(BigInteger seed) {
            return seed.subtract(AND).multiply(TIMES.modInverse(OVER)).mod(OVER).intValue();
        }

        /** Lets the same hour go by in an object, and compares. */
        void pass(FarEnds x, int wires, String name) {
            int place = x.told(1);
            int crosses = x.told(3);
            int tests = x.told(4);
            int hours = x.told(2);
            int what = draw(4);
            int i = draw(wires);
            due("17 " + name + ": drift(1)", x.drift(1), hours + 1);
            if (what == 0) {
                due("17 " + name + ": group", place == 0 ? x.wire(i, 3) : x.end(i, 1), draw(4));
            } else if (what == 1) {
                tests += draw(wires) == i ? 0 : 1;
            } else if (what == 2) {
                place = 1 - place;
                crosses++;
            } else {
                due("17 " + name + ": kind", x.wire(i, 0), draw(4));
            }
            due("17 " + name + ": place", x.told(1), place);
            due("17 " + name + ": crosses", x.told(3), crosses);
            due("17 " + name + ": tests", x.told(4), tests);
            int seedNow = seed.intValue();
            due("17 " + name + ": seed", x.seed(seedNow), seedNow);
        }
    }

    // Section 3: "left over by 2 to the 31": seeds at their bounds, and those of which a draw makes such a one
    private static void driftByHand() {
        for (int steps = 0; steps <= 3; steps++) {
            for (int off = -3; off <= 3; off++) {
                BigInteger goal = BigInteger.valueOf(off).mod(Hour.OVER);
                for (int i = 0; i < steps; i++) {
                    goal = BigInteger.valueOf(Hour.ahead(goal));
                }
                int seed = goal.intValue();
                FarEnds x = Check.cable(ORDERS[3]);
                x.seed(seed);
                Hour hour = new Hour(seed);
                for (int i = 0; i < 4; i++) {
                    hour.pass(x, 3, "from seed " + seed);
                }
            }
        }
    }

    // Section 3: "for each a DRAW of 4, of WIRES", for the fewest wires to the most
    private static void driftByEverySize() {
        for (int n = 2; n <= 5; n++) {
            FarEnds x = Check.cable(ORDERS[n]);
            Hour hour = new Hour(0);
            for (int i = 0; i < 45; i++) {
                hour.pass(x, n, "of " + n + " wires");
            }
            FarEnds y = Check.cable(ORDERS[n]);
            due("17 drift(45) at once", y.drift(45), 45);
            for (int what = 1; what <= 4; what++) {
                due("17 drift(45) at once: told(" + what + ")", y.told(what), x.told(what));
            }
            for (int i = 0; i < n; i++) {
                due("17 drift(45) at once: wire(" + i + ", 0)", y.wire(i, 0), x.wire(i, 0));
                due("17 drift(45) at once: wire(" + i + ", 3)", y.wire(i, 3), x.wire(i, 3));
                due("17 drift(45) at once: end(" + i + ", 1)", y.end(i, 1), x.end(i, 1));
            }
            due("17 drift(45) at once: seed", y.seed(0), x.seed(0));
        }
    }

    // ---- Promise 18

    // "The latest is undone: how many more can be. NOT: none."
    private static void undoOfNone() {
        TWINS.refused("18 undo() without a cable", Twins::nothing, x -> x.undo(), NOT);
        TWINS.refused("18 undo() of a new cable", cable(ORDERS[2]), x -> x.undo(), NOT);
        TWINS.refused("18 undo() behind all", Twins.then(Twins::busy, x -> {
            for (int i = 0; i < 4; i++) {
                x.undo();
            }
        }), x -> x.undo(), NOT);
        TWINS.refused("18 undo() behind keep()", Twins.then(Twins::busy, x -> x.keep(0)), x -> x.undo(), NOT);
        TWINS.refused("18 undo() behind goBack()", Twins.then(Twins::busy, x -> x.goBack(0)), x -> x.undo(), NOT);
        FarEnds x = Check.cable(ORDERS[2]);
        x.tie(0, 1);
        due("18 undo() of one", x.undo(), 0);
        due("18 undo() of none", x.undo(), NOT);
        due("6 wire(0, 3)", x.wire(0, 3), 0);
        x.tie(0, 1);
        x.tie(0, 2);
        due("18 undo() of two", x.undo(), 1);
        due("6 wire(0, 3)", x.wire(0, 3), 1);
    }

    // Section 3: "the latest of tie(), cross(), test(), rest(), mend(), touch(), drift() ..: all of section 2 is as ahead
    // of it"
    private static void undoOfEach() {
        Twins.Deed[] deeds = {x -> x.tie(0, 1), x -> x.cross(), x -> x.test(0, 1), x -> x.rest(7), x -> x.mend(1, 1),
            x -> x.touch(1, 2, true), x -> x.touch(0, 2, true)};
        for (int i = 0; i < deeds.length; i++) {
            Twins.Deed deed = deeds[i];
            TWINS.alike("18 deed " + i + " undone", Twins::busy, Twins.then(Twins::busy, x -> {
                deed.on(x);
                x.undo();
            }));
            FarEnds x = new FarEnds();
            Twins.busy(x);
            deed.on(x);
            due("5 told(13) behind deed " + i, x.told(13), 5);
            due("18 undo() of deed " + i, x.undo(), 4);
        }
        TWINS.alike("18 drift(60) undone, but for its seed", Twins::busy, Twins.then(Twins::busy, x -> {
            x.drift(60);
            x.undo();
            x.seed(4711);
        }));
    }

    // Section 3: "(16 at most are kept, the oldest are lost)"
    private static void undoAtMostSixteen() {
        for (int deeds : new int[] {15, 16, 17, 18, 31, 32, 33, 40}) {
            FarEnds x = Check.cable(ORDERS[2]);
            for (int i = 1; i <= deeds; i++) {
                x.rest(1);
                due("5 told(13) behind " + i, x.told(13), Math.min(i, 16));
            }
            int kept = Math.min(deeds, 16);
            for (int i = 1; i <= kept; i++) {
                due("18 of " + deeds + ": undo() " + i, x.undo(), kept - i);
                due("5 of " + deeds + ": hours", x.told(2), deeds - i);
            }
            due("18 of " + deeds + ": undo() of none", x.undo(), NOT);
            due("5 of " + deeds + ": the oldest stay done", x.told(2), deeds - kept);
        }
    }

    // Section 3: the calls named there, and none else
    private static void undoOfNothingElse() {
        FarEnds x = new FarEnds();
        Twins.busy(x);
        x.see(0, 1, false);
        x.write(0, 0);
        x.seed(5);
        x.feed('x');
        x.rings(0, 1);
        x.cut(0, 1);
        x.ties(NONE);
        x.dry(1, 1);
        x.judge();
        x.tear();
        x.undo();
        due("5 told(13): see(), write(), seed() and the rest are not kept", x.told(13), 3);
        due("5 told(4): the latest was the test", x.told(4), 1);
        due("5 told(11): what is torn stays so", x.told(11), 0);
        due("5 told(5): so does the text", x.told(5), 5);
        x.cable();
        due("5 told(13): a cable with a fault leaves them", x.told(13), 3);
    }

    // Section 3: "that was not refused"
    private static void undoOfNothingRefused() {
        FarEnds x = Check.cable(ORDERS[2]);
        for (int i = 0; i < 16; i++) {
            x.rest(1);
        }
        due("11 refused", x.tie(0, 0), NOT);
        due("11 refused", x.tie(2, 1), UNKNOWN);
        due("11 refused", x.tie(0, 4), OUTSIDE);
        due("13 refused", x.test(0, 0), UNKNOWN);
        due("14 refused", x.rest(0), OUTSIDE);
        due("15 refused", x.mend(0, 0), NOT);
        due("16 refused", x.touch(0, 1, false), NOT);
        due("17 refused", x.drift(61), OUTSIDE);
        due("5 told(13)", x.told(13), 16);
        for (int i = 15; i >= 0; i--) {
            due("18 undo()", x.undo(), i);
            due("5 hours", x.told(2), i);
        }
    }

    // Section 3: "THE SEED stays"
    private static void undoKeepsTheSeed() {
        FarEnds x = Check.cable(ORDERS[3]);
        x.seed(2147483647);
        x.drift(1);
        int seed = x.seed(0);
        x.seed(seed);
        due("18 undo() of drift(1)", x.undo(), 0);
        due("26 the seed is as drawn", x.seed(9), seed);
        x.rest(1);
        x.seed(10);
        due("18 undo() of rest(1)", x.undo(), 0);
        due("26 the seed is as set since", x.seed(9), 10);
    }

    /** The row of what can be undone is used again and again: undone and done in turns, over its brim. */
    private static void undoOverTheBrim() {
        FarEnds x = Check.cable(ORDERS[2]);
        int hours = 0;
        int kept = 0;
        for (int round = 0; round < 12; round++) {
            for (int i = 0; i < 5; i++) {
                x.rest(1);
                hours++;
                kept = Math.min(kept + 1, 16);
            }
            for (int i = 0; i < 3; i++) {
                hours--;
                kept--;
                due("18 round " + round + ": undo()", x.undo(), kept);
                due("5 round " + round + ": hours", x.told(2), hours);
            }
        }
        for (int i = kept - 1; i >= 0; i--) {
            hours--;
            due("18 at last: undo()", x.undo(), i);
            due("5 at last: hours", x.told(2), hours);
        }
        due("18 at last: undo() of none", x.undo(), NOT);
    }
}
