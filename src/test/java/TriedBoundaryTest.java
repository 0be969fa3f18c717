/** Promises 19 to 28, what is tried, seen, drawn, kept: each sentence that names a boundary, at it and one step to each side. */
public final class TriedBoundaryTest {
    private static final int NONE = -1, UNKNOWN = -1000000001, OUTSIDE = -1000000002, NOT = -1000000003, FULL = -1000000004;
    private static final Check CHECK = new Check("TriedBoundaryTest");
    private static final Twins TWINS = new Twins(CHECK);
    private static final int MIN = Integer.MIN_VALUE, MAX = Integer.MAX_VALUE, BILLION = 1000000000;
    private static final String[] ORDERS = {"", "", "c1,0;", "c2,0,1;", "c3,1,0,2;", "c4,2,0,3,1;"};
    private static final int[] FACTORIAL = {1, 1, 2, 6, 24, 120};

    public static void main(String[] args) {
        endsToCut();
        cutOfNone();
        cutByAllBroken();
        cutOfFewest();
        cutOfLikeOnes();
        cutOfEveryKind();
        endsOfTies();
        tiesWithoutCable();
        tiesOfEverySize();
        tiesOfLikeOnes();
        tiesOfLateWays();
        tiesAsIfAtTheFarPlace();
        tiesInThisHour();
        nightsOfDry();
        oddsOfDry();
        dryIsCut();
        triedChangesNothing();
        leftAtItsLeast();
        leftByEarth();
        endsToSee();
        seenAtMostEight();
        seenAsOfThen();
        couldBeNone();
        couldBeOne();
        couldBeAskedAnew();
        askOfNone();
        askOfTheGreatest();
        entriesToWrite();
        bookAtMostFifteen();
        tearOfAll();
        judgeFromFirstToLast();
        judgeOfNone();
        boundsOfSeed();
        imagesToKeep();
        imagesToGoBackTo();
        keptIsAllOfSectionTwo();
        keptOverKept();
        nothingUndoneThen();
        imagesWithoutCable();
        CHECK.end();
    }

    private static void due(String call, int got, int want) {
        CHECK.due(call, got, want);
    }

    private static Twins.Deed cable(String text) {
        return x -> {
            Check.feed(x, text);
            x.cable();
        };
    }

    private static FarEnds busy() {
        FarEnds x = new FarEnds();
        Twins.busy(x);
        return x;
    }

    /** Ties all of these ends into one group, where one is. */
    private static void tieAll(FarEnds x, int group, int... ends) {
        for (int i : ends) {
            x.tie(i, group);
        }
    }

    // ---- Promise 19

    // "CUT of two ends where one is (not of EARTH)", "UNKNOWN"
    private static void endsToCut() {
        int[][] wrong = {{0, -1}, {-1, 0}, {-1, -1}, {0, -2}, {0, 0}, {3, 3}, {4, 0}, {0, 4}, {4, 4}, {MIN, 0}, {0, MAX}};
        for (int[] pair : wrong) {
            String name = "19 cut(" + pair[0] + ", " + pair[1] + ")";
            TWINS.refused(name, Twins::busy, x -> x.cut(pair[0], pair[1]), UNKNOWN);
            TWINS.refused(name + " without a cable", Twins::nothing, x -> x.cut(pair[0], pair[1]), UNKNOWN);
        }
        TWINS.refused("19 cut(0, 1) without a cable", Twins::nothing, x -> x.cut(0, 1), UNKNOWN);
        for (int n = 2; n <= 5; n++) {
            FarEnds x = Check.cable(ORDERS[n]);
            tieAll(x, 1, 0, n - 1);
            due("19 near: cut(0, n - 1) of " + n, x.cut(0, n - 1), NONE);
            due("19 near: cut(0, n) of " + n, x.cut(0, n), UNKNOWN);
            due("19 near: cut(n, 0) of " + n, x.cut(n, 0), UNKNOWN);
            x.cross();
            due("19 far: cut of the ends of 0 and n - 1 of " + n, x.cut(x.wire(0, 1), x.wire(n - 1, 1)), 1);
        }
    }

    // "the fewest WIRES (a SET ..)": none, where it does not ring
    private static void cutOfNone() {
        for (int n = 2; n <= 5; n++) {
            FarEnds x = Check.cable(ORDERS[n]);
            due("19 near: cut(0, 1) of " + n, x.cut(0, 1), 0);
            x.cross();
            due("19 far: cut(n - 1, n - 2) of " + n, x.cut(n - 1, n - 2), 0);
        }
    }

    // "NONE: they RING with all broken."
    private static void cutByAllBroken() {
        FarEnds x = Check.cable("c1,0,2;s0 1;");
        due("19 near: cut(0, 1) of two that touch", x.cut(0, 1), NONE);
        due("19 near: cut(1, 2)", x.cut(1, 2), 0);
        x.touch(1, 2, true);
        due("19 near: cut(0, 2) by touch of a third", x.cut(0, 2), NONE);
        x.cross();
        due("19 far: cut(0, 1) of two that touch at the near place", x.cut(0, 1), 1);
        tieAll(x, 3, 0, 1);
        due("19 far: cut(0, 1) of two that are tied here", x.cut(0, 1), NONE);
        x.tie(1, 2);
        due("19 far: cut(0, 1) of two in unlike groups", x.cut(0, 1), 1);
        x.mend(0, 1);
        x.mend(1, 1);
        x.mend(2, 1);
        due("19 far: cut(0, 1) with all broken", x.cut(0, 1), 0);
        x.cross();
        due("19 near: cut(0, 1) with all broken", x.cut(0, 1), NONE);
    }

    // "the fewest", though its number is the greater
    private static void cutOfFewest() {
        FarEnds x = Check.cable("c0,1,2,3;");
        tieAll(x, 1, 0, 1, 2);
        x.cross();
        tieAll(x, 1, 0, 1, 3);
        due("19 cut(3, 2): wire 2 alone, or 0 and 1", x.cut(3, 2), 4);
        x.mend(1, 1);
        due("19 cut(3, 2): wire 0 or 2", x.cut(3, 2), 1);
        x.mend(0, 1);
        due("19 cut(3, 2): nothing more", x.cut(3, 2), 0);
    }

    // "(.. of like ones the least)"
    private static void cutOfLikeOnes() {
        String[] orders = {"c0,1,2,3,4;", "c0,2,1,3,4;", "c0,3,1,2,4;", "c3,4,1,2,0;", "c4,3,2,1,0;", "c1,4,2,3,0;"};
        int[] want = {3, 5, 6, 6, 6, 12};
        for (int i = 0; i < orders.length; i++) {
            FarEnds x = Check.cable(orders[i]);
            tieAll(x, 1, 0, 1, 2, 3, 4);
            x.cross();
            tieAll(x, 1, 0, 1);
            tieAll(x, 2, 2, 3);
            due("19 of " + orders[i] + " cut(0, 2): both of one side, or both of the other", x.cut(0, 2), want[i]);
            due("19 of " + orders[i] + " cut(3, 1)", x.cut(3, 1), want[i]);
        }
    }

    // "(whatever KIND they are)"
    private static void cutOfEveryKind() {
        for (int kind = 0; kind <= 3; kind++) {
            FarEnds x = Check.cable("c1,0;s0 1;" + (kind == 0 ? "" : "k0 " + kind + ";"));
            x.cross();
            due("19 cut(0, 1) in hour 1, of kind " + kind, x.cut(0, 1), kind == 1 || kind == 3 ? 0 : 1);
            x.rest(1);
            due("19 cut(0, 1) in hour 2, of kind " + kind, x.cut(0, 1), kind == 1 ? 0 : 1);
            due("6 its kind stays", x.wire(0, 0), kind);
        }
        FarEnds x = Check.cable("c1,0,2;k1 2;k2 2;");
        due("9 near: rings(1, 2) by earth", x.rings(1, 2), 1);
        due("19 near: cut(1, 2): a broken one leaks no more", x.cut(1, 2), 2);
    }

    // ---- Promise 20

    // "i = NONE how many LEFT, else the group of a NEAR END. UNKNOWN"
    private static void endsOfTies() {
        for (int n = 2; n <= 5; n++) {
            for (int i : new int[] {MIN, -3, -2, n, n + 1, MAX}) {
                TWINS.refused("20 ties(" + i + ") of " + n, cable(ORDERS[n]), x -> x.ties(i), UNKNOWN);
            }
            FarEnds x = Check.cable(ORDERS[n]);
            due("20 ties(0) of " + n, x.ties(0), 0);
            due("20 ties(n - 1) of " + n, x.ties(n - 1), n / 2 - (n == 2 ? 1 : 0));
        }
    }

    // "NOT: no CABLE."
    private static void tiesWithoutCable() {
        TWINS.refused("20 ties(NONE) without a cable", Twins::nothing, x -> x.ties(NONE), NOT);
        TWINS.refused("20 ties(0) without a cable", Twins::nothing, x -> x.ties(0), UNKNOWN);
        TWINS.refused("20 ties(-2) without a cable", Twins::nothing, x -> x.ties(-2), UNKNOWN);
        FarEnds x = Check.cable("c1,0;");
        due("20 ties(NONE) with a cable", x.ties(NONE), 2);
        x.cable();
        due("20 ties(NONE) with none again", x.ties(NONE), NOT);
    }

    // Section 3, TIES: "the one by which LEFT is least", for the fewest wires to the most
    private static void tiesOfEverySize() {
        int[] left = {0, 0, 2, 2, 4, 8};
        int[][] groups = {{}, {}, {0, 0}, {0, 0, 1}, {0, 0, 1, 2}, {0, 0, 1, 1, 2}};
        for (int n = 2; n <= 5; n++) {
            dueTies("of " + n + " sound", Check.cable(ORDERS[n]), left[n], groups[n]);
        }
    }

    private static void dueTies(String name, FarEnds x, int left, int... groups) {
        due("20 " + name + ": ties(NONE)", x.ties(NONE), left);
        for (int i = 0; i < groups.length; i++) {
            due("20 " + name + ": ties(" + i + ")", x.ties(i), groups[i]);
        }
    }

    // Section 3, TIES: "of like ones the first (.. 0 first; NEAR END by NEAR END the lesser number)"
    private static void tiesOfLikeOnes() {
        for (int n = 2; n <= 5; n++) {
            for (int kind = 1; kind <= 2; kind++) {
                FarEnds x = Check.cable(ORDERS[n]);
                for (int w = 0; w < n; w++) {
                    x.mend(w, kind);
                }
                dueTies("of " + n + " of kind " + kind + ", no way better", x, FACTORIAL[n], new int[n]);
            }
        }
        dueTies("one of two leaks", Check.cable("c1,0;k0 2;"), 1, 0, 1);
        dueTies("the other of two leaks", Check.cable("c1,0;k1 2;"), 1, 0, 1);
        dueTies("one of two is broken", Check.cable("c1,0;k1 1;"), 2, 0, 0);
        dueTies("one of two broken, the other leaks", Check.cable("c1,0;k1 1;k0 2;"), 1, 0, 0);
        dueTies("the last of three is broken", Check.cable("c2,0,1;k2 1;"), 2, 0, 0, 0);
        dueTies("the first of three leaks", Check.cable("c2,0,1;k0 2;"), 2, 0, 0, 1);
        dueTies("all touch", Check.cable("c2,0,1;s0 1;s1 2;"), 6, 0, 0, 0);
    }

    // Section 3, TIES: "group by group of NEAR ENDS, each number at most 1 more than those ahead", to the last of all ways
    private static void tiesOfLateWays() {
        dueTies("0 and 2 touch", Check.cable("c2,0,1;s0 2;"), 2, 0, 1, 0);
        dueTies("1 and 2 touch", Check.cable("c2,0,1;s1 2;"), 2, 0, 1, 1);
        dueTies("two and two touch", Check.cable("c3,1,0,2;s0 2;s1 3;"), 8, 0, 1, 0, 1);
        dueTies("0 and 3 of four touch", Check.cable("c3,1,0,2;s0 3;"), 4, 0, 1, 2, 0);
        dueTies("the last two of four touch", Check.cable("c3,1,0,2;s2 3;"), 4, 0, 1, 2, 2);
        dueTies("the first and the last of five touch", Check.cable("c4,2,0,3,1;s0 4;"), 8, 0, 1, 1, 2, 0);
        dueTies("two and two of five touch", Check.cable("c4,2,0,3,1;s1 3;s2 4;"), 8, 0, 1, 2, 1, 2);
        dueTies("one leaks, three touch", Check.cable("c4,2,0,3,1;k0 2;s2 3;s2 4;"), 6, 0, 1, 2, 2, 2);
    }

    // Section 3, TIES: "FAR ENDS not TIED, tried so at the FAR place"
    private static void tiesAsIfAtTheFarPlace() {
        FarEnds x = Check.cable(ORDERS[4]);
        tieAll(x, 1, 0, 1, 2, 3);
        dueTies("near ends are tied otherwise now", x, 4, 0, 0, 1, 2);
        x.cross();
        tieAll(x, 2, 0, 1, 2, 3);
        dueTies("far ends are tied now", x, 4, 0, 0, 1, 2);
        due("5 told(10) as it is now", x.told(10), 24);
        due("7 end(0, 1) stays", x.end(0, 1), 2);
        due("6 wire(3, 3) stays", x.wire(3, 3), 1);
        x.cross();
        dueTies("at the near place", x, 4, 0, 0, 1, 2);
        x.see(0, 1, false);
        due("5 no order could be by what is seen", x.told(8), 0);
        dueTies("of all orders, whatever is seen", x, 4, 0, 0, 1, 2);
    }

    // Section 3, TIES: "in this HOUR"
    private static void tiesInThisHour() {
        FarEnds x = Check.cable("c2,0,1;k0 3;k1 2;");
        dueTies("in hour 0: 0 passes", x, 2, 0, 0, 1);
        x.rest(1);
        dueTies("in hour 1: 0 does not, 1 leaks", x, 2, 0, 0, 0);
        x.rest(1);
        dueTies("in hour 2: 0 passes", x, 2, 0, 0, 1);
    }

    // ---- Promise 21

    // Section 3, DRY: "n dry nights (0 .. 60)"
    private static void nightsOfDry() {
        for (int n : new int[] {MIN, -2, -1, 61, 62, MAX}) {
            TWINS.refused("21 dry(" + n + ", 50)", Twins::busy, x -> x.dry(n, 50), OUTSIDE);
            TWINS.refused("21 dry(" + n + ", 50) without a cable", Twins::nothing, x -> x.dry(n, 50), OUTSIDE);
        }
        FarEnds x = new FarEnds();
        due("21 dry(0, 99)", x.dry(0, 99), BILLION);
        due("21 dry(1, 99)", x.dry(1, 99), 990000000);
        due("21 dry(59, 99)", x.dry(59, 99), 552683455);
        due("21 dry(60, 99)", x.dry(60, 99), 547156620);
    }

    // Section 3, DRY: "each by q of a hundred (0 .. 100)"
    private static void oddsOfDry() {
        for (int q : new int[] {MIN, -2, -1, 101, 102, MAX}) {
            TWINS.refused("21 dry(1, " + q + ")", Twins::busy, x -> x.dry(1, q), OUTSIDE);
            TWINS.refused("21 dry(0, " + q + ")", Twins::nothing, x -> x.dry(0, q), OUTSIDE);
        }
        FarEnds x = new FarEnds();
        due("21 dry(0, 0)", x.dry(0, 0), BILLION);
        due("21 dry(1, 0)", x.dry(1, 0), 0);
        due("21 dry(60, 0)", x.dry(60, 0), 0);
        due("21 dry(1, 1)", x.dry(1, 1), 10000000);
        due("21 dry(1, 99)", x.dry(1, 99), 990000000);
        due("21 dry(1, 100)", x.dry(1, 100), BILLION);
        due("21 dry(60, 100)", x.dry(60, 100), BILLION);
        due("21 dry(0, 100)", x.dry(0, 100), BILLION);
    }

    // Section 3, DRY: "each (cut)"
    private static void dryIsCut() {
        FarEnds x = new FarEnds();
        due("21 dry(4, 1)", x.dry(4, 1), 10);
        due("21 dry(5, 1)", x.dry(5, 1), 0);
        due("21 dry(29, 50)", x.dry(29, 50), 1);
        due("21 dry(30, 50)", x.dry(30, 50), 0);
        due("21 dry(60, 98), cut each night", x.dry(60, 98), 297553126);
        due("21 dry(58, 70), cut each night", x.dry(58, 70), 0);
    }

    // Section 3: "TRIED from now; nothing changes by it."
    private static void triedChangesNothing() {
        TWINS.alike("19 to 21, 25 asked", Twins::busy, Twins.then(Twins::busy, x -> {
            for (int i = 0; i < 4; i++) {
                x.cut(i, (i + 1) % 4);
                x.ties(i);
            }
            x.ties(NONE);
            x.dry(60, 99);
            x.judge();
            x.told(8);
            x.told(9);
            x.told(10);
        }));
    }

    // ---- LEFT

    // Section 3, LEFT: "how many of all ORDERS would let all RING as truly": one at least, the true one
    private static void leftAtItsLeast() {
        FarEnds x = Check.cable("c1,0;k0 2;");
        due("5 near: told(10): nothing is told here", x.told(10), 2);
        x.cross();
        due("5 far: told(10): the one that leaks is told", x.told(10), 1);
        x.mend(1, 2);
        due("5 far: told(10): both leak", x.told(10), 2);
        FarEnds y = Check.cable("c2,0,1;k0 2;");
        tieAll(y, 1, 1, 2);
        y.cross();
        due("5 far: told(10): one by earth, two that are tied", y.told(10), 2);
        y.tie(1, 1);
        y.tie(0, 1);
        due("5 far: told(10): one of two tied with the one that leaks, here too", y.told(10), 2 * 2);
    }

    // Section 3, LEFT: "and each with EARTH"
    private static void leftByEarth() {
        FarEnds x = Check.cable("c2,0,3,1;");
        tieAll(x, 1, 0, 1);
        tieAll(x, 2, 2, 3);
        x.cross();
        due("5 told(10): two pairs", x.told(10), 8);
        x.mend(3, 2);
        due("5 told(10): one pair is earthed", x.told(10), 4);
        FarEnds y = Check.cable("c2,3,4,0,1;");
        tieAll(y, 1, 0, 1);
        tieAll(y, 2, 2, 3);
        y.cross();
        due("5 told(10) of five: two pairs and one", y.told(10), 8);
        y.mend(1, 2);
        due("5 told(10) of five: the pair at the last ends is earthed", y.told(10), 4);
        y.mend(4, 2);
        due("5 told(10) of five: these and the third are", y.told(10), 2 * 6);
    }

    // ---- Promise 22

    // "(b = NONE: EARTH) .. UNKNOWN"
    private static void endsToSee() {
        int[][] wrong = {{-1, 0}, {-1, -1}, {0, -2}, {0, 0}, {3, 3}, {4, 0}, {0, 4}, {4, -1}, {4, 4}, {MIN, 0}, {0, MAX}};
        for (int[] pair : wrong) {
            String name = "22 see(" + pair[0] + ", " + pair[1] + ")";
            TWINS.refused(name, Twins::busy, x -> x.see(pair[0], pair[1], true), UNKNOWN);
            TWINS.refused(name + " without a cable", Twins::nothing, x -> x.see(pair[0], pair[1], false), UNKNOWN);
        }
        TWINS.refused("22 see(0, 1) without a cable", Twins::nothing, x -> x.see(0, 1, false), UNKNOWN);
        for (int n = 2; n <= 5; n++) {
            FarEnds x = Check.cable(ORDERS[n]);
            due("22 see(0, n) of " + n, x.see(0, n, false), UNKNOWN);
            due("22 see(0, n - 1) of " + n, x.see(0, n - 1, false), 1);
            due("22 see(n - 1, NONE) of " + n, x.see(n - 1, NONE, false), 2);
            due("5 told(8) of " + n, x.told(8), FACTORIAL[n]);
        }
    }

    // Section 3: "SEEN (8 at most)"; "FULL (8)"
    private static void seenAtMostEight() {
        Twins.Deed full = Twins.then(cable("c1,2,0;k0 2;"), x -> {
            x.cross();
            for (int i = 0; i < 7; i++) {
                x.see(0, 1, false);
            }
            x.see(2, NONE, true);
            x.write(0, 1);
        });
        TWINS.refused("22 see(0, 1, true) as the ninth", full, x -> x.see(0, 1, true), FULL);
        TWINS.refused("22 see(0, NONE, true) as the ninth", full, x -> x.see(0, NONE, true), FULL);
        FarEnds x = Check.cable("c1,2,0;k0 2;");
        x.cross();
        for (int i = 1; i <= 7; i++) {
            due("22 see(0, 1, false)", x.see(0, 1, false), i);
        }
        due("5 seven tell nothing", x.told(8), 6);
        due("22 see(2, NONE, true), the eighth", x.see(2, NONE, true), 8);
        due("5 the eighth counts", x.told(8), 2);
        due("22 see(1, NONE, true), the ninth", x.see(1, NONE, true), FULL);
        due("5 the ninth does not", x.told(8), 2);
        due("5 told(11)", x.told(11), 8);
        due("24 tear()", x.tear(), 8);
        due("22 see() behind it", x.see(1, NONE, true), 1);
        due("5 that is seen alone", x.told(8), 2);
        due("7 end(1, 2)", x.end(1, 2), 1);
    }

    // Section 3, SEEN: "KINDS and what TOUCHES as they are now, with ties, HOUR, place as they were when it was told"
    private static void seenAsOfThen() {
        FarEnds x = Check.cable("c1,2,0;k0 3;");
        tieAll(x, 1, 0, 1);
        x.cross();
        x.see(0, 1, false);
        due("5 in hour 1 the flaky one does not pass: nothing is told", x.told(8), 6);
        x.rest(1);
        due("5 in hour 2 it was so in hour 1 still", x.told(8), 6);
        x.see(0, 1, false);
        due("5 seen in hour 2, too", x.told(8), 4);
        x.cross();
        x.tie(0, 0);
        due("5 untied, but tied when it was told", x.told(8), 4);
        due("5 near, but far when it was told", x.told(1), 0);
        x.mend(0, 1);
        due("5 broken now: nothing is told", x.told(8), 6);
        x.touch(1, 2, true);
        due("5 1 and 2 touch now: they are not at 0 and 1", x.told(8), 4);
        x.undo();
        x.undo();
        due("5 undone", x.told(8), 4);
    }

    // Section 3, COULD BE: "NONE"
    private static void couldBeNone() {
        FarEnds x = Check.cable("c1,2,0;");
        x.see(0, 1, true);
        due("5 told(8) of none", x.told(8), 0);
        due("5 told(9) of none", x.told(9), NONE);
        for (int e = 0; e < 3; e++) {
            due("7 end(" + e + ", 2) of none", x.end(e, 2), 0);
            due("7 end(" + e + ", 3) of none", x.end(e, 3), NONE);
            due("7 end(" + e + ", 0) is so still", x.end(e, 0), (e + 1) % 3);
        }
        due("5 told(10) is of all orders", x.told(10), 6);
    }

    private static void couldBeOne() {
        FarEnds x = Check.cable("c1,2,0;k0 2;");
        tieAll(x, 1, 0, 1);
        x.cross();
        x.see(2, NONE, true);
        due("5 0 or 1 is at 2", x.told(8), 4);
        x.cross();
        x.tie(1, 0);
        x.cross();
        x.see(2, NONE, true);
        due("5 0 is at 2", x.told(8), 2);
        x.see(0, NONE, false);
        due("5 told already", x.told(8), 2);
        x.cross();
        tieAll(x, 2, 0, 1);
        x.cross();
        x.see(0, NONE, true);
        due("5 told(8) of one", x.told(8), 1);
        due("5 told(9) of one", x.told(9), NONE);
        for (int e = 0; e < 3; e++) {
            due("7 end(" + e + ", 2) of one", x.end(e, 2), 1 << (e + 1) % 3);
            due("7 end(" + e + ", 3) of one", x.end(e, 3), (e + 1) % 3);
        }
    }

    /** What could be is asked in each way at first, with nothing asked ahead of it, and anew when kinds have changed. */
    private static void couldBeAskedAnew() {
        Twins.Deed seen = Twins.then(cable("c1,2,0;k0 2;"), x -> {
            tieAll(x, 1, 1, 2);
            x.cross();
            x.see(2, NONE, true);
            x.see(0, NONE, false);
        });
        Twins.Deed mended = Twins.then(seen, x -> {
            x.told(8);
            x.mend(0, 0);
            x.mend(1, 2);
        });
        Twins.Question[] asked = {x -> x.told(8), x -> x.end(2, 2), x -> x.end(0, 2), x -> x.end(0, 3), x -> x.told(9)};
        int[] whenSeen = {2, 1, 6, 1, NONE};
        int[] whenMended = {2, 6, 1, 0, NONE};
        for (int i = 0; i < asked.length; i++) {
            due("5, 7 asked at first: question " + i, answer(seen, asked[i]), whenSeen[i]);
            due("5, 7 asked anew: question " + i, answer(mended, asked[i]), whenMended[i]);
        }
        Twins.Deed notAt = Twins.then(cable("c0,1,2;"), x -> {
            tieAll(x, 1, 0, 1);
            x.cross();
            x.see(0, 1, false);
        });
        due("5 told(9) at first: 0 with 2, or 1 with 2", answer(notAt, x -> x.told(9)), 2);
        due("5 told(9) behind told(8)", answer(Twins.then(notAt, x -> x.told(8)), x -> x.told(9)), 2);
        Twins.Deed lastTwo = Twins.then(cable("c2,1,0;k2 2;"), x -> {
            x.cross();
            x.see(0, NONE, true);
        });
        due("5 told(8): the last two orders", answer(lastTwo, x -> x.told(8)), 2);
        due("5 told(9) of them: none parts them", answer(lastTwo, x -> x.told(9)), NONE);
        Twins.Deed parted = Twins.then(lastTwo, x -> {
            x.cross();
            tieAll(x, 1, 1, 2);
            x.cross();
        });
        due("5 told(9) of them: 0 with 1, or 0 with 2", answer(parted, x -> x.told(9)), 1);
    }

    private static int answer(Twins.Deed ahead, Twins.Question question) {
        FarEnds x = new FarEnds();
        ahead.on(x);
        return question.of(x);
    }

    // Section 3, ASK: "NONE: none parts them."
    private static void askOfNone() {
        FarEnds x = Check.cable("c0,1,2;");
        due("5 near: told(9)", x.told(9), NONE);
        x.cross();
        due("5 far: told(9) of nothing tied", x.told(9), NONE);
        x.cross();
        tieAll(x, 1, 0, 1, 2);
        x.cross();
        due("5 far: told(9) of all tied", x.told(9), NONE);
        x.cross();
        x.tie(2, 0);
        due("5 near: told(9) of two tied", x.told(9), NONE);
        x.cross();
        due("5 far: told(9) of two tied", x.told(9), 1);
        x.mend(0, 1);
        due("5 far: told(9), one of them broken", x.told(9), NONE);
        x.mend(0, 2);
        due("5 far: told(9), one of them leaks: two at earth ring, two ends are asked for", x.told(9), 1);
    }

    // Section 3, ASK: "10 times the lesser and the other", "of like ones the least number", to the greatest there is
    private static void askOfTheGreatest() {
        FarEnds x = Check.cable("c0,1,2,3,4;");
        tieAll(x, 1, 0, 1);
        x.cross();
        int[] not = {2, 3, 4, 12, 13, 14, 23, 24};
        for (int i = 0; i < not.length; i++) {
            due("5 told(9) with " + i + " seen: 0 and 1 are like all that are left", x.told(9), 1);
            x.see(not[i] / 10, not[i] % 10, false);
        }
        due("5 told(8): 0 and 1 are at 0 and 1, or at 3 and 4", x.told(8), 24);
        due("5 told(9): the lesser of two", x.told(9), 1);
        tieAll(x, 1, 0, 1);
        due("5 told(9): those at 0 and 1 ring anyhow", x.told(9), 34);
        tieAll(x, 2, 3, 4);
        due("5 told(9): those at 3 and 4, too", x.told(9), NONE);
    }

    // ---- Promise 23

    // "(a FAR END, a WIRE) .. UNKNOWN"
    private static void entriesToWrite() {
        int[][] wrong = {{-1, 0}, {0, -1}, {4, 0}, {0, 4}, {5, 5}, {MIN, 0}, {0, MAX}};
        for (int[] entry : wrong) {
            String name = "23 write(" + entry[0] + ", " + entry[1] + ")";
            TWINS.refused(name, Twins::busy, x -> x.write(entry[0], entry[1]), UNKNOWN);
        }
        TWINS.refused("23 write(0, 0) without a cable", Twins::nothing, x -> x.write(0, 0), UNKNOWN);
        for (int n = 2; n <= 5; n++) {
            FarEnds x = Check.cable(ORDERS[n]);
            due("23 write(n, 0) of " + n, x.write(n, 0), UNKNOWN);
            due("23 write(0, n) of " + n, x.write(0, n), UNKNOWN);
            due("23 write(n - 1, n - 1) of " + n + ", an end and a wire", x.write(n - 1, n - 1), 1);
            due("23 write(0, 0) of " + n, x.write(0, 0), 2);
            due("5 told(12) of " + n, x.told(12), 2);
        }
    }

    // Section 3: "THE BOOK (15 at most)"; "FULL (15)"
    private static void bookAtMostFifteen() {
        Twins.Deed full = Twins.then(cable("c1,0;"), x -> {
            for (int i = 0; i < 15; i++) {
                x.write(0, 1);
            }
            x.see(0, 1, false);
        });
        TWINS.refused("23 write(0, 0) as entry 16", full, x -> x.write(0, 0), FULL);
        TWINS.refused("23 write(0, 1) as entry 16", full, x -> x.write(0, 1), FULL);
        FarEnds x = Check.cable("c1,0;");
        for (int i = 1; i <= 14; i++) {
            due("23 write(0, 1)", x.write(0, 1), i);
        }
        due("25 judge() of 14", x.judge(), NONE);
        due("23 write(1, 1), the last", x.write(1, 1), 15);
        due("25 judge() of 15: the last is false", x.judge(), 14);
        due("23 write(0, 0), one too many", x.write(0, 0), FULL);
        due("5 told(12)", x.told(12), 15);
        due("24 tear()", x.tear(), 15);
        due("23 write(1, 0) behind it", x.write(1, 0), 1);
        due("25 judge() of it", x.judge(), NONE);
    }

    // ---- Promise 24: "Nothing SEEN, THE BOOK is empty: how much both had."
    private static void tearOfAll() {
        TWINS.alike("24 tear() of nothing", Twins::nothing, Twins.then(Twins::nothing, x -> x.tear()));
        due("24 tear() without a cable", new FarEnds().tear(), 0);
        FarEnds x = Check.cable("c1,0;");
        due("24 tear() of none", x.tear(), 0);
        x.see(0, 1, false);
        due("24 tear() of one seen", x.tear(), 1);
        x.write(0, 1);
        due("24 tear() of one entry", x.tear(), 1);
        for (int i = 0; i < 16; i++) {
            x.see(0, 1, true);
            x.write(0, 0);
        }
        due("5 no order could be", x.told(8), 0);
        due("25 judge()", x.judge(), 0);
        due("24 tear() of as much as there can be", x.tear(), 23);
        due("5 told(8)", x.told(8), 2);
        due("5 told(11)", x.told(11), 0);
        due("5 told(12)", x.told(12), 0);
        due("25 judge() of none", x.judge(), NONE);
        due("24 tear() again", x.tear(), 0);
        Twins.Deed torn = y -> {
            Twins.busy(y);
            y.tear();
        };
        TWINS.alike("24 tear() twice", torn, Twins.then(torn, y -> y.tear()));
        due("5 what can be undone stays", answer(torn, y -> y.told(13)), 4);
    }

    // ---- Promise 25: "FALSE; NONE."; section 3: "FALSE: the first that is not so"
    private static void judgeFromFirstToLast() {
        for (int first = 0; first < 15; first++) {
            FarEnds x = Check.cable("c1,2,0;");
            for (int i = 0; i < 15; i++) {
                boolean isSo = i < first || i % 2 != first % 2;
                x.write(i % 3, isSo ? (i + 1) % 3 : i % 3);
            }
            due("25 judge() with number " + first + " as the first", x.judge(), first);
        }
    }

    private static void judgeOfNone() {
        due("25 judge() without a cable", new FarEnds().judge(), NONE);
        FarEnds x = Check.cable("c1,2,0;");
        due("25 judge() of an empty book", x.judge(), NONE);
        for (int i = 0; i < 15; i++) {
            x.write(i % 3, (i + 1) % 3);
        }
        due("25 judge() of a full one that is so", x.judge(), NONE);
        x.mend(0, 1);
        x.drift(60);
        due("25 judge(): the order is so for good", x.judge(), NONE);
    }

    // ---- Promise 26: "THE SEED becomes v (0 .. 2147483647): what it was. OUTSIDE."; section 3: "0 at first"
    private static void boundsOfSeed() {
        for (int v : new int[] {MIN, MIN + 1, -2, -1}) {
            TWINS.refused("26 seed(" + v + ")", Twins::busy, x -> x.seed(v), OUTSIDE);
            TWINS.refused("26 seed(" + v + ") without a cable", Twins::nothing, x -> x.seed(v), OUTSIDE);
        }
        FarEnds x = new FarEnds();
        due("26 seed(1) at first", x.seed(1), 0);
        due("26 seed(0)", x.seed(0), 1);
        due("26 seed(2147483647)", x.seed(2147483647), 0);
        due("26 seed(2147483646)", x.seed(2147483646), 2147483647);
        due("26 seed(-1)", x.seed(-1), OUTSIDE);
        due("26 seed(0) behind it", x.seed(0), 2147483646);
        Check.feed(x, "c1,0;");
        x.cable();
        x.drift(1);
        due("26 seed() behind an hour: 12345 (a tie), 1406932606 (of end 0), then", x.seed(0), 654583775);
    }

    // ---- Promises 27, 28

    // Promise 27: "IMAGE i becomes what is so ..: 1. UNKNOWN."
    private static void imagesToKeep() {
        for (int i : new int[] {MIN, -2, -1, 2, 3, MAX}) {
            TWINS.refused("27 keep(" + i + ")", Twins::busy, x -> x.keep(i), UNKNOWN);
            TWINS.refused("27 keep(" + i + ") without a cable", Twins::nothing, x -> x.keep(i), UNKNOWN);
        }
        FarEnds x = Check.cable("c1,0;");
        due("27 keep(0)", x.keep(0), 1);
        due("28 goBack(1), which was not kept", x.goBack(1), NOT);
        due("27 keep(1)", x.keep(1), 1);
        due("28 goBack(0)", x.goBack(0), 1);
        due("28 goBack(1)", x.goBack(1), 1);
    }

    // Promise 28: "What is so becomes IMAGE i ..: 1. UNKNOWN, NOT: it was not kept."
    private static void imagesToGoBackTo() {
        for (int i : new int[] {MIN, -2, -1, 2, 3, MAX}) {
            TWINS.refused("28 goBack(" + i + ")", Twins::busy, x -> x.goBack(i), UNKNOWN);
            TWINS.refused("28 goBack(" + i + ") without a cable", Twins::nothing, x -> x.goBack(i), UNKNOWN);
        }
        for (int i = 0; i <= 1; i++) {
            int one = i;
            int other = 1 - i;
            Twins.Deed ahead = Twins.then(cable("c2,0,1;k0 2;"), x -> {
                x.tie(0, 1);
                x.keep(other);
                x.cross();
                x.see(0, 1, false);
            });
            TWINS.refused("28 goBack(" + i + "), the other was kept", ahead, x -> x.goBack(one), NOT);
            FarEnds x = new FarEnds();
            ahead.on(x);
            due("28 goBack(" + other + ")", x.goBack(other), 1);
            due("5 place of it", x.told(1), 0);
            due("28 goBack(" + other + ") again", x.goBack(other), 1);
            x.cable();
            due("28 goBack(" + other + ") of another cable", x.goBack(other), NOT);
        }
        TWINS.refused("28 goBack(0) of a new one", x -> x.feed('c'), x -> x.goBack(0), NOT);
    }

    // Section 3: "IMAGES 0, 1 keep all of section 2, THE SEED."
    private static void keptIsAllOfSectionTwo() {
        for (int i = 0; i <= 1; i++) {
            int image = i;
            Twins.Deed kept = Twins.then(Twins::busy, x -> x.keep(image));
            TWINS.alike("28 goBack(" + i + ") at once", kept, Twins.then(kept, x -> x.goBack(image)));
            TWINS.alike("28 goBack(" + i + ") from all that can change", kept, Twins.then(kept, x -> {
                x.tie(0, 1);
                x.test(0, 1);
                x.cross();
                x.tie(0, 2);
                x.tie(1, 3);
                x.rest(60);
                x.mend(0, 2);
                x.touch(1, 3, true);
                x.drift(60);
                x.seed(1);
                x.goBack(image);
            }));
        }
        FarEnds x = busy();
        x.keep(0);
        x.see(0, 1, true);
        x.write(2, 2);
        x.goBack(0);
        due("5 what is seen since stays", x.told(11), 3);
        due("5 what is written since stays", x.told(12), 3);
        due("5 the text stays", x.told(5), 4);
    }

    private static void keptOverKept() {
        FarEnds x = Check.cable("c1,0;");
        x.keep(0);
        x.rest(1);
        x.keep(1);
        x.rest(1);
        x.keep(0);
        x.rest(1);
        x.goBack(1);
        due("5 hour of image 1", x.told(2), 1);
        x.goBack(0);
        due("5 hour of image 0, as kept the second time", x.told(2), 2);
        x.rest(5);
        x.goBack(0);
        due("5 the image is as it was", x.told(2), 2);
    }

    // Promises 27, 28: "(nothing can be undone then)"
    private static void nothingUndoneThen() {
        FarEnds x = busy();
        due("5 told(13)", x.told(13), 4);
        x.keep(1);
        due("5 told(13) behind keep(1)", x.told(13), 0);
        due("18 undo() behind keep(1)", x.undo(), NOT);
        x.rest(1);
        x.rest(1);
        due("5 told(13)", x.told(13), 2);
        x.goBack(0);
        due("5 told(13) behind goBack(0)", x.told(13), 0);
        due("18 undo() behind goBack(0)", x.undo(), NOT);
        x.rest(1);
        due("18 undo() of what is done since", x.undo(), 0);
        x.rest(1);
        due("27 keep(2)", x.keep(2), UNKNOWN);
        due("28 goBack(-1)", x.goBack(-1), UNKNOWN);
        due("5 told(13) behind refusals", x.told(13), 1);
    }

    private static void imagesWithoutCable() {
        FarEnds x = new FarEnds();
        x.seed(7);
        due("27 keep(0) without a cable", x.keep(0), 1);
        x.seed(8);
        due("28 goBack(0) without a cable", x.goBack(0), 1);
        due("26 its seed", x.seed(0), 7);
        Check.feed(x, "c1,0;");
        x.cable();
        due("28 goBack(0) with a cable since", x.goBack(0), NOT);
        x.rest(1);
        x.keep(1);
        x.cable();
        due("28 goBack(1) without one again", x.goBack(1), NOT);
        due("5 hours without one", x.told(2), 0);
    }
}
