/** Promises 5 to 10, and what is JOINED by section 2: each sentence that names a boundary, at it and a step to either side. */
public final class LookBoundaryTest {
    private static final int NONE = -1, UNKNOWN = -1000000001, OUTSIDE = -1000000002;
    private static final Check CHECK = new Check("LookBoundaryTest");
    private static final Twins TWINS = new Twins(CHECK);
    private static final int MIN = Integer.MIN_VALUE, MAX = Integer.MAX_VALUE;
    private static final String[] ORDERS = {"", "", "c1,0;", "c2,0,1;", "c3,1,0,2;", "c4,2,0,3,1;"};
    private static final int[] FACTORIAL = {1, 1, 2, 6, 24, 120};

    public static void main(String[] args) {
        boundsOfTold();
        toldWithoutCable();
        toldOfAllSizes();
        pairsThatTouch();
        goodWires();
        boundsOfWire();
        boundsOfEnd();
        boundsOfNet();
        boundsOfRings();
        boundsOfTouches();
        kindsByHour();
        kindsByLateHour();
        brokenOnesTouch();
        groupsJoin();
        groupsOfOnePlace();
        chains();
        firstPlace();
        lookingChangesNothing();
        CHECK.end();
    }

    private static void due(String call, int got, int want) {
        CHECK.due(call, got, want);
    }

    // Promise 5: "0 .. 13 .. OUTSIDE"
    private static void boundsOfTold() {
        for (int what : new int[] {MIN, -2, -1, 14, 15, MAX}) {
            TWINS.refused("5 told(" + what + ")", Twins::busy, x -> x.told(what), OUTSIDE);
            TWINS.refused("5 told(" + what + ") without a cable", Twins::nothing, x -> x.told(what), OUTSIDE);
        }
        FarEnds x = new FarEnds();
        Twins.busy(x);
        due("5 told(0), the least", x.told(0), 4);
        due("5 told(13), the greatest", x.told(13), 4);
    }

    // Promise 5: "8 how many ORDERS COULD BE (0 without a CABLE), .. 10 LEFT (0 without a CABLE)"
    private static void toldWithoutCable() {
        FarEnds x = new FarEnds();
        due("5 told(8) without a cable", x.told(8), 0);
        due("5 told(9) without a cable", x.told(9), NONE);
        due("5 told(10) without a cable", x.told(10), 0);
        Check.feed(x, "c0,1;");
        due("5 told(8) while a text is told", x.told(8), 0);
        due("5 told(10) while a text is told", x.told(10), 0);
        due("5 told(0) while a text is told", x.told(0), 0);
        x.cable();
        due("5 told(8) with a cable", x.told(8), 2);
        due("5 told(10) with a cable", x.told(10), 2);
        x.cable();
        due("5 told(8) without one again", x.told(8), 0);
        due("5 told(10) without one again", x.told(10), 0);
    }

    // Promise 5, section 3: "ORDERS: all in which FAR ENDS could be of WIRES", for the fewest wires to the most
    private static void toldOfAllSizes() {
        for (int n = 2; n <= 5; n++) {
            FarEnds x = Check.cable(ORDERS[n]);
            due("5 told(0) of " + n, x.told(0), n);
            due("5 told(7) of " + n, x.told(7), (1 << n) - 1);
            due("5 told(8) of " + n, x.told(8), FACTORIAL[n]);
            due("5 told(9) of " + n, x.told(9), NONE);
            due("5 told(10) of " + n, x.told(10), FACTORIAL[n]);
            for (int e = 0; e < n; e++) {
                due("7 end(" + e + ", 2) of " + n, x.end(e, 2), (1 << n) - 1);
                due("7 end(" + e + ", 3) of " + n + ", in the first of all orders", x.end(e, 3), e);
            }
        }
    }

    // Promise 5: "6 how many pairs TOUCH", from none to all ten
    private static void pairsThatTouch() {
        FarEnds x = Check.cable("c0,1,2,3,4;");
        due("5 no pair touches", x.told(6), 0);
        int many = 0;
        for (int a = 0; a < 5; a++) {
            for (int b = a + 1; b < 5; b++) {
                many++;
                due("16 touch(" + b + ", " + a + ", true)", x.touch(b, a, true), many);
                due("5 pairs that touch", x.told(6), many);
            }
        }
        due("5 all pairs touch", x.told(6), 10);
    }

    // Section 3: "GOOD: WIRES (a SET) both ends of which are JOINED"
    private static void goodWires() {
        due("5 told(7) of all broken", Check.cable("c1,0;k0 1;k1 1;").told(7), 0);
        due("5 told(7) of one broken", Check.cable("c1,0;k0 1;").told(7), 2);
        FarEnds x = Check.cable("c4,2,0,3,1;k4 1;s4 0;");
        due("5 told(7): 4 is broken", x.told(7), 15);
        x.cross();
        x.tie(0, 1);
        due("5 told(7): its far end is tied alone", x.told(7), 15);
        x.tie(2, 1);
        due("5 told(7): its far end is tied with that of 0, which it touches", x.told(7), 31);
        x.cross();
        x.touch(0, 4, false);
        due("5 told(7): it touches no more", x.told(7), 15);
    }

    // Promise 6: "Of a WIRE: what = 0 .. 3 .. UNKNOWN, OUTSIDE"
    private static void boundsOfWire() {
        for (int n = 2; n <= 5; n++) {
            String text = ORDERS[n];
            Twins.Deed told = x -> {
                Check.feed(x, text);
                x.cable();
            };
            for (int w : new int[] {MIN, -2, -1, n, n + 1, MAX}) {
                TWINS.refused("6 wire(" + w + ", 0) of " + n, told, x -> x.wire(w, 0), UNKNOWN);
            }
            FarEnds x = Check.cable(text);
            due("6 wire(0, 0) of " + n, x.wire(0, 0), 0);
            due("6 wire(n - 1, 1) of " + n, x.wire(n - 1, 1), text.indexOf((char) ('0' + n - 1)) / 2);
        }
        for (int what : new int[] {MIN, -1, 4, 5, MAX}) {
            TWINS.refused("6 wire(0, " + what + ")", Twins::busy, x -> x.wire(0, what), OUTSIDE);
        }
        FarEnds x = new FarEnds();
        Twins.busy(x);
        due("6 wire(0, 0), the least", x.wire(0, 0), 0);
        due("6 wire(0, 3), the greatest", x.wire(0, 3), 1);
        TWINS.refused("6 wire(0, 0) without a cable", Twins::nothing, y -> y.wire(0, 0), UNKNOWN);
    }

    // Promise 7: "Of a FAR END: what = 0 .. 3 .. UNKNOWN, OUTSIDE"
    private static void boundsOfEnd() {
        for (int n = 2; n <= 5; n++) {
            String text = ORDERS[n];
            Twins.Deed told = x -> {
                Check.feed(x, text);
                x.cable();
            };
            for (int e : new int[] {MIN, -2, -1, n, n + 1, MAX}) {
                TWINS.refused("7 end(" + e + ", 0) of " + n, told, x -> x.end(e, 0), UNKNOWN);
            }
            FarEnds x = Check.cable(text);
            due("7 end(0, 0) of " + n, x.end(0, 0), text.charAt(1) - '0');
            due("7 end(n - 1, 0) of " + n, x.end(n - 1, 0), text.charAt(2 * n - 1) - '0');
        }
        for (int what : new int[] {MIN, -1, 4, 5, MAX}) {
            TWINS.refused("7 end(0, " + what + ")", Twins::busy, x -> x.end(0, what), OUTSIDE);
        }
        FarEnds x = new FarEnds();
        Twins.busy(x);
        due("7 end(0, 0), the least", x.end(0, 0), 2);
        due("7 end(0, 1)", x.end(0, 1), 3);
        due("5 told(8), those in which 0 or 3 is at end 0, 3 or 0 at end 1 or 2, 1 at end 3", x.told(8), 4);
        due("7 end(1, 2)", x.end(1, 2), 1 + 4 + 8);
        due("7 end(0, 3), the greatest, in the first of these: 0 2 3 1", x.end(0, 3), 0);
        due("7 end(1, 3)", x.end(1, 3), 2);
        due("7 end(3, 3)", x.end(3, 3), 1);
        TWINS.refused("7 end(0, 0) without a cable", Twins::nothing, y -> y.end(0, 0), UNKNOWN);
    }

    // Promise 8: "(place 0 NEAR, 1 FAR). UNKNOWN (the end), OUTSIDE (the place)."
    private static void boundsOfNet() {
        for (int n = 2; n <= 5; n++) {
            String text = ORDERS[n];
            Twins.Deed told = x -> {
                Check.feed(x, text);
                x.cable();
            };
            for (int i : new int[] {MIN, -1, n, n + 1, 5, 10, MAX}) {
                TWINS.refused("8 net(0, " + i + ") of " + n, told, x -> x.net(0, i), UNKNOWN);
                TWINS.refused("8 net(1, " + i + ") of " + n, told, x -> x.net(1, i), UNKNOWN);
            }
            FarEnds x = Check.cable(text);
            int lastWire = text.charAt(2 * n - 1) - '0';
            due("8 net(1, n - 1) of " + n, x.net(1, n - 1), 1 << 5 + n - 1 | 1 << lastWire);
            due("8 net(0, n - 1) of " + n, x.net(0, n - 1), 1 << n - 1 | 32 << text.indexOf((char) ('0' + n - 1)) / 2);
        }
        for (int place : new int[] {MIN, -1, 2, 3, MAX}) {
            TWINS.refused("8 net(" + place + ", 0)", Twins::busy, x -> x.net(place, 0), OUTSIDE);
        }
        TWINS.refused("8 net(0, 0) without a cable", Twins::nothing, x -> x.net(0, 0), UNKNOWN);
        FarEnds x = Check.cable("c1,0;k0 1;k1 1;");
        due("8 net(0, 0) is itself alone", x.net(0, 0), 1);
        due("8 net(0, 1) is itself alone", x.net(0, 1), 2);
        due("8 net(1, 0) is itself alone", x.net(1, 0), 32);
        due("8 net(1, 1) is itself alone", x.net(1, 1), 64);
    }

    // Promise 9: "two ends where one is ..; b = NONE: EARTH. UNKNOWN."
    private static void boundsOfRings() {
        int[][] wrong = {{-1, 0}, {-1, -1}, {-2, -1}, {0, -2}, {0, 0}, {3, 3}, {4, 0}, {0, 4}, {4, -1}, {4, 4}, {5, 6},
            {MIN, 0}, {0, MIN}, {MAX, 0}, {0, MAX}, {MAX, -1}};
        for (int[] pair : wrong) {
            String name = "9 rings(" + pair[0] + ", " + pair[1] + ")";
            TWINS.refused(name, Twins::busy, x -> x.rings(pair[0], pair[1]), UNKNOWN);
            TWINS.refused(name + " without a cable", Twins::nothing, x -> x.rings(pair[0], pair[1]), UNKNOWN);
        }
        TWINS.refused("9 rings(0, 1) without a cable", Twins::nothing, x -> x.rings(0, 1), UNKNOWN);
        FarEnds x = Check.cable("c2,0,3,1;k0 2;");
        due("9 rings(0, NONE)", x.rings(0, NONE), 1);
        due("9 rings(3, NONE)", x.rings(3, NONE), 0);
        due("9 rings(0, 3)", x.rings(0, 3), 0);
        x.touch(0, 3, true);
        due("9 rings(3, NONE) by touch", x.rings(3, NONE), 1);
        due("9 rings(0, 3) by touch", x.rings(0, 3), 1);
        due("9 rings(3, 0) by touch", x.rings(3, 0), 1);
        x.cross();
        due("9 far: rings(0, 3)", x.rings(0, 3), 0);
        due("9 far: rings(1, 2), the ends of 0 and 3", x.rings(1, 2), 1);
        due("9 far: rings(2, NONE)", x.rings(2, NONE), 1);
    }

    // Promise 10: "Whether two WIRES TOUCH (1, 0). UNKNOWN."
    private static void boundsOfTouches() {
        int[][] wrong = {{-1, 0}, {0, -1}, {-1, -1}, {0, 0}, {2, 2}, {3, 3}, {4, 0}, {0, 4}, {4, 4}, {MIN, 0}, {0, MAX}};
        for (int[] pair : wrong) {
            String name = "10 touches(" + pair[0] + ", " + pair[1] + ")";
            TWINS.refused(name, Twins::busy, x -> x.touches(pair[0], pair[1]), UNKNOWN);
        }
        TWINS.refused("10 touches(0, 1) without a cable", Twins::nothing, x -> x.touches(0, 1), UNKNOWN);
        for (int a = 0; a < 5; a++) {
            for (int b = 0; b < 5; b++) {
                if (a != b) {
                    FarEnds x = Check.cable("c0,1,2,3,4;s" + a + " " + b + ";");
                    due("10 one pair touches", touching(x), 1 << 5 * Math.min(a, b) + Math.max(a, b));
                }
            }
        }
    }

    private static int touching(FarEnds x) {
        int set = 0;
        for (int a = 0; a < 5; a++) {
            for (int b = a + 1; b < 5; b++) {
                if (x.touches(a, b) == 1) {
                    set |= 1 << 5 * a + b;
                }
                due("10 either way round", x.touches(b, a), x.touches(a, b));
            }
        }
        return set;
    }

    // Section 2: "0 (sound) always; 1 (broken) never; 2 (leaking) always; 3 (flaky) in HOURS of an even number"
    private static void kindsByHour() {
        int[][] nets = {{65, 65, 65, 65}, {1, 1, 1, 1}, {1089, 1089, 1089, 1089}, {65, 1, 65, 1}};
        int[][] passes = {{1, 1, 1, 1}, {0, 0, 0, 0}, {1, 1, 1, 1}, {1, 0, 1, 0}};
        for (int kind = 0; kind <= 3; kind++) {
            FarEnds x = Check.cable("c1,0;" + (kind == 0 ? "" : "k0 " + kind + ";"));
            for (int hour = 0; hour <= 3; hour++) {
                String when = " of kind " + kind + " in hour " + hour;
                due("8 net(0, 0)" + when, x.net(0, 0), nets[kind][hour]);
                due("8 net(1, 1)" + when, x.net(1, 1), passes[kind][hour] == 1 ? nets[kind][hour] : 64);
                due("6 wire(0, 2)" + when, x.wire(0, 2), passes[kind][hour]);
                due("9 rings(0, NONE)" + when, x.rings(0, NONE), kind == 2 ? 1 : 0);
                due("5 told(7)" + when, x.told(7), 2 + passes[kind][hour]);
                x.rest(1);
            }
        }
    }

    private static void kindsByLateHour() {
        FarEnds x = Check.cable("c1,0;k0 3;");
        Twins.waitUntil(x, 8999);
        for (int hour = 8999; hour <= 9001; hour++) {
            due("6 wire(0, 2) in hour " + hour, x.wire(0, 2), hour == 9000 ? 1 : 0);
            x.rest(1);
        }
        x.undo();
        due("14 rest(60) in hour 9000", x.rest(60), 9060);
        due("6 wire(0, 2) in hour 9060, the last of all", x.wire(0, 2), 1);
    }

    // Section 2: "NEAR ENDS of two that TOUCH", though neither passes
    private static void brokenOnesTouch() {
        FarEnds x = Check.cable("c1,0;k0 1;k1 1;s0 1;");
        due("8 net(0, 0) of broken ones that touch", x.net(0, 0), 3);
        due("8 net(1, 0) of broken ones that touch", x.net(1, 0), 32);
        due("9 near: rings(0, 1)", x.rings(0, 1), 1);
        x.cross();
        due("9 far: rings(0, 1)", x.rings(0, 1), 0);
        x.mend(0, 0);
        due("8 net(1, 1) of the one mended", x.net(1, 1), 67);
        due("9 far: rings(0, 1) with one mended", x.rings(0, 1), 0);
        x.mend(1, 0);
        due("9 far: rings(0, 1) with both mended", x.rings(0, 1), 1);
    }

    // Section 2: "TIED in one GROUP (1 .. 3; 0, not TIED, at first)"
    private static void groupsJoin() {
        for (int place = 0; place <= 1; place++) {
            for (int a = 0; a <= 3; a++) {
                for (int b = 0; b <= 3; b++) {
                    FarEnds x = Check.cable("c1,0;k0 1;k1 1;");
                    for (int i = 0; i < place; i++) {
                        x.cross();
                    }
                    due("11 tie(0, " + a + ")", x.tie(0, a), a == 0 ? FarEnds.NOT : 0);
                    due("11 tie(1, " + b + ")", x.tie(1, b), b == 0 ? FarEnds.NOT : 0);
                    String name = "9 at " + place + " rings(0, 1) of groups " + a + " and " + b;
                    due(name, x.rings(0, 1), a == b && a != 0 ? 1 : 0);
                }
            }
        }
    }

    // Section 2: "ends at one place that are TIED": one group's number at both places joins nothing
    private static void groupsOfOnePlace() {
        FarEnds x = Check.cable("c1,0;k0 1;k1 1;");
        x.tie(0, 2);
        x.cross();
        x.tie(0, 2);
        due("8 net(0, 0)", x.net(0, 0), 1);
        due("8 net(1, 0)", x.net(1, 0), 32);
        due("6 wire(0, 3)", x.wire(0, 3), 2);
        due("6 wire(1, 3)", x.wire(1, 3), 0);
        due("7 end(0, 1)", x.end(0, 1), 2);
        due("7 end(1, 1)", x.end(1, 1), 0);
    }

    // Section 2: "what is JOINED with something JOINED", over as many as there are
    private static void chains() {
        FarEnds x = Check.cable("c0,1,2,3,4;k0 2;s0 1;s1 2;s2 3;s3 4;");
        for (int i = 0; i < 5; i++) {
            due("8 net(0, " + i + ") of all", x.net(0, i), 2047);
            due("8 net(1, " + i + ") of all", x.net(1, i), 2047);
        }
        x.touch(3, 4, false);
        due("8 net(0, 4) with one link less", x.net(0, 4), 16 + 512);
        due("8 net(1, 3) with one link less", x.net(1, 3), 2047 - 16 - 512);
        FarEnds y = Check.cable("c4,3,2,1,0;");
        y.tie(0, 1);
        y.tie(1, 1);
        y.tie(2, 2);
        y.tie(3, 2);
        y.cross();
        y.tie(3, 3);
        y.tie(2, 3);
        y.tie(1, 2);
        y.tie(0, 2);
        due("8 net(0, 0), to and fro", y.net(0, 0), 1023);
        due("8 net(1, 0), to and fro", y.net(1, 0), 1023);
        due("9 rings(0, 4), to and fro", y.rings(0, 4), 1);
        due("9 rings(0, NONE)", y.rings(0, NONE), 0);
        y.mend(2, 1);
        due("9 rings(0, 4), one in the midst broken", y.rings(0, 4), 0);
    }

    // Section 2: "One is at the NEAR place at first", "HOURS (0 at first)"
    private static void firstPlace() {
        FarEnds x = Check.cable("c1,0;");
        due("5 told(1) at first", x.told(1), 0);
        due("5 told(2) at first", x.told(2), 0);
        due("12 cross()", x.cross(), 1);
        due("5 told(1) behind one walk", x.told(1), 1);
        due("12 cross() back", x.cross(), 2);
        due("5 told(1) behind two", x.told(1), 0);
    }

    // Section 3: "TRIED from now; nothing changes by it", and a look changes nothing either
    private static void lookingChangesNothing() {
        TWINS.alike("5 to 10 asked", Twins::busy, Twins.then(Twins::busy, x -> {
            for (int what = 0; what <= 13; what++) {
                x.told(what);
            }
            for (int i = 0; i < 4; i++) {
                for (int what = 0; what <= 3; what++) {
                    x.wire(i, what);
                    x.end(i, what);
                }
                x.net(0, i);
                x.net(1, i);
                x.rings(i, NONE);
                x.rings(i, (i + 1) % 4);
                x.touches(i, (i + 1) % 4);
            }
            x.fault();
        }));
    }
}
