import java.util.ArrayList;
import java.util.List;

/** The document's Terms: the order of the REFUSALS, "What is refused changes nothing", and the 512 calls of an object. */
public final class TermsBoundaryTest {
    private static final int NONE = -1, UNKNOWN = -1000000001, OUTSIDE = -1000000002, NOT = -1000000003, FULL = -1000000004;
    private static final Check CHECK = new Check("TermsBoundaryTest");
    private static final Twins TWINS = new Twins(CHECK);
    private static final int MOST_CALLS = 512;
    private static final int[] ODD = {Integer.MIN_VALUE, -1000000001, -65536, -256, -61, -6, -2, -1, 0, 1, 2, 3, 4, 5, 6, 7, 10,
        13, 14, 15, 16, 31, 32, 33, 60, 61, 63, 64, 100, 101, 255, 256, 65536, 1 << 30, Integer.MAX_VALUE};

    public static void main(String[] args) {
        refusalsAreFarBelow();
        unknownIsFirst();
        outsideIsSecond();
        unknownAheadOfNotAndFull();
        refusedAllAtOnce();
        anyNumbersAtAll();
        lastOfItsCalls();
        CHECK.end();
    }

    private static void due(String call, int got, int want) {
        CHECK.due(call, got, want);
    }

    // Terms: "They are far below all that is counted: -1000000001 and on." "NONE is -1."
    private static void refusalsAreFarBelow() {
        due("NONE", FarEnds.NONE, -1);
        due("UNKNOWN", FarEnds.UNKNOWN, -1000000001);
        due("OUTSIDE", FarEnds.OUTSIDE, -1000000002);
        due("NOT", FarEnds.NOT, -1000000003);
        due("FULL", FarEnds.FULL, -1000000004);
    }

    // Terms: "of several the first in this order: UNKNOWN .., OUTSIDE"
    private static void unknownIsFirst() {
        for (Twins.Deed ahead : List.<Twins.Deed>of(Twins::busy, Twins::nothing)) {
            for (int wrong : new int[] {-1, 4}) {
                TWINS.refused("6 wire(" + wrong + ", -1)", ahead, x -> x.wire(wrong, -1), UNKNOWN);
                TWINS.refused("6 wire(" + wrong + ", 4)", ahead, x -> x.wire(wrong, 4), UNKNOWN);
                TWINS.refused("7 end(" + wrong + ", -1)", ahead, x -> x.end(wrong, -1), UNKNOWN);
                TWINS.refused("7 end(" + wrong + ", 4)", ahead, x -> x.end(wrong, 4), UNKNOWN);
                TWINS.refused("8 net(-1, " + wrong + ")", ahead, x -> x.net(-1, wrong), UNKNOWN);
                TWINS.refused("8 net(2, " + wrong + ")", ahead, x -> x.net(2, wrong), UNKNOWN);
                TWINS.refused("11 tie(" + wrong + ", -1)", ahead, x -> x.tie(wrong, -1), UNKNOWN);
                TWINS.refused("11 tie(" + wrong + ", 4)", ahead, x -> x.tie(wrong, 4), UNKNOWN);
                TWINS.refused("15 mend(" + wrong + ", -1)", ahead, x -> x.mend(wrong, -1), UNKNOWN);
                TWINS.refused("15 mend(" + wrong + ", 4)", ahead, x -> x.mend(wrong, 4), UNKNOWN);
            }
        }
    }

    // Terms: ".. OUTSIDE (another number out of its bounds), NOT (not now, as told), FULL"
    private static void outsideIsSecond() {
        Twins.Deed late = Twins.busyUntil(9001);
        Twins.Deed letters = Twins.then(Twins::busy, x -> Check.feed(x, ";" + " ".repeat(235)));
        TWINS.refused("2 feed(256) of a full text", letters, x -> x.feed(256), OUTSIDE);
        TWINS.refused("2 feed(255) of a full text", letters, x -> x.feed(255), FULL);
        for (int n : new int[] {0, 61}) {
            TWINS.refused("14 rest(" + n + ") without a cable", Twins::nothing, x -> x.rest(n), OUTSIDE);
            TWINS.refused("14 rest(" + n + ") late", late, x -> x.rest(n), OUTSIDE);
            TWINS.refused("17 drift(" + n + ") without a cable", Twins::nothing, x -> x.drift(n), OUTSIDE);
            TWINS.refused("17 drift(" + n + ") late", late, x -> x.drift(n), OUTSIDE);
        }
        for (int n : new int[] {1, 60}) {
            TWINS.refused("14 rest(" + n + ") without a cable", Twins::nothing, x -> x.rest(n), NOT);
            TWINS.refused("14 rest(" + n + ") late", late, x -> x.rest(n), FULL);
            TWINS.refused("17 drift(" + n + ") without a cable", Twins::nothing, x -> x.drift(n), NOT);
            TWINS.refused("17 drift(" + n + ") late", late, x -> x.drift(n), FULL);
        }
    }

    // Terms: UNKNOWN ahead of NOT and of FULL; "one twice, where two are asked"
    private static void unknownAheadOfNotAndFull() {
        TWINS.refused("16 touch(0, 0, false), which is so", Twins::busy, x -> x.touch(0, 0, false), UNKNOWN);
        TWINS.refused("16 touch(0, 4, false), which is so", Twins::busy, x -> x.touch(0, 4, false), UNKNOWN);
        TWINS.refused("16 touch(0, 1, false), which is so", Twins::busy, x -> x.touch(0, 1, false), NOT);
        TWINS.refused("20 ties(0) without a cable", Twins::nothing, x -> x.ties(0), UNKNOWN);
        TWINS.refused("20 ties(NONE) without a cable", Twins::nothing, x -> x.ties(NONE), NOT);
        TWINS.refused("28 goBack(2), which was not kept", Twins::nothing, x -> x.goBack(2), UNKNOWN);
        TWINS.refused("28 goBack(0), which was not kept", Twins::nothing, x -> x.goBack(0), NOT);
        Twins.Deed full = Twins.then(Twins::busy, x -> {
            for (int i = 0; i < 15; i++) {
                x.see(0, 1, true);
                x.write(0, 2);
            }
        });
        TWINS.refused("22 see(0, 0) of full", full, x -> x.see(0, 0, true), UNKNOWN);
        TWINS.refused("22 see(4, NONE) of full", full, x -> x.see(4, NONE, true), UNKNOWN);
        TWINS.refused("22 see(0, 4) of full", full, x -> x.see(0, 4, true), UNKNOWN);
        TWINS.refused("22 see(0, 1) of full", full, x -> x.see(0, 1, true), FULL);
        TWINS.refused("23 write(4, 0) of full", full, x -> x.write(4, 0), UNKNOWN);
        TWINS.refused("23 write(0, 4) of full", full, x -> x.write(0, 4), UNKNOWN);
        TWINS.refused("23 write(0, 0) of full", full, x -> x.write(0, 0), FULL);
    }

    // Terms: "What is refused changes nothing."
    private static void refusedAllAtOnce() {
        Twins.Deed wrong = x -> {
            for (int i : new int[] {-2, 4, 256}) {
                dueAll(UNKNOWN, x.wire(i, 0), x.end(i, 0), x.net(0, i), x.rings(0, i), x.touches(i, 0), x.tie(i, 1));
                dueAll(UNKNOWN, x.test(i, NONE), x.mend(i, 1), x.touch(i, 0, true), x.cut(0, i), x.ties(i));
                dueAll(UNKNOWN, x.see(0, i, true), x.write(i, 0), x.write(0, i), x.keep(i), x.goBack(i));
            }
            for (int n : new int[] {-1, 256}) {
                dueAll(OUTSIDE, x.feed(n), x.told(n), x.rest(n), x.drift(n), x.dry(n, 1), x.dry(1, n));
            }
            due("26 seed(-1)", x.seed(-1), OUTSIDE);
        };
        TWINS.alike("all refused, busy", Twins::busy, Twins.then(Twins::busy, wrong));
        TWINS.alike("all refused, without a cable", Twins::nothing, Twins.then(Twins::nothing, wrong));
        TWINS.alike("all refused, late", Twins.busyUntil(9000), Twins.then(Twins.busyUntil(9000), wrong));
    }

    private static void dueAll(int want, int... answers) {
        for (int i = 0; i < answers.length; i++) {
            due("refused, number " + i, answers[i], want);
        }
    }

    /** Every call with every odd number, and all pairs of them: nothing is thrown, and what is refused changes nothing. */
    private static void anyNumbersAtAll() {
        for (Twins.Deed ahead : List.<Twins.Deed>of(Twins::busy, Twins::nothing, x -> { })) {
            for (int a : ODD) {
                for (int b : ODD) {
                    for (Twins.Question call : calls(a, b)) {
                        anyCall(ahead, call, "(" + a + ", " + b + ")");
                    }
                }
            }
        }
    }

    private static void anyCall(Twins.Deed ahead, Twins.Question call, String name) {
        FarEnds x = new FarEnds();
        FarEnds y = new FarEnds();
        ahead.on(x);
        ahead.on(y);
        if (call.of(x) <= UNKNOWN) {
            for (int what = 0; what <= 13; what++) {
                due("refused of" + name + ": told(" + what + ")", x.told(what), y.told(what));
            }
            for (int i = 0; i < 4; i++) {
                due("refused of" + name + ": net(0, " + i + ")", x.net(0, i), y.net(0, i));
                due("refused of" + name + ": net(1, " + i + ")", x.net(1, i), y.net(1, i));
                due("refused of" + name + ": wire(" + i + ", 0)", x.wire(i, 0), y.wire(i, 0));
            }
            due("refused of" + name + ": seed(0)", x.seed(0), y.seed(0));
        }
    }

    private static List<Twins.Question> calls(int a, int b) {
        List<Twins.Question> calls = new ArrayList<>(List.of(x -> x.wire(a, b), x -> x.end(a, b), x -> x.net(a, b),
            x -> x.rings(a, b), x -> x.touches(a, b), x -> x.tie(a, b), x -> x.test(a, b), x -> x.mend(a, b)));
        calls.addAll(List.of(x -> x.touch(a, b, true), x -> x.touch(a, b, false), x -> x.cut(a, b), x -> x.dry(a, b),
            x -> x.see(a, b, true), x -> x.see(a, b, false), x -> x.write(a, b)));
        if (b == 0) {
            calls.addAll(List.of(x -> x.feed(a), x -> x.told(a), x -> x.rest(a), x -> x.drift(a), x -> x.ties(a),
                x -> x.seed(a), x -> x.keep(a), x -> x.goBack(a)));
        }
        return calls;
    }

    // "An object is used for at most 512 calls after it has been made; what later calls answer is free."
    private static void lastOfItsCalls() {
        FarEnds x = new FarEnds();
        Check.feed(x, "c1,0,2;k0 3;");
        int calls = 12;
        due("3 cable()", x.cable(), 3);
        calls++;
        int tests = 0;
        while (calls < MOST_CALLS - 3) {
            x.test(0, NONE);
            tests++;
            calls++;
        }
        due("5 call 510: told(4)", x.told(4), tests);
        due("18 call 511: undo()", x.undo(), 15);
        due("5 call 512: told(4)", x.told(4), tests - 1);
        x.drift(60);
        due("5 call 514 is free, but ends", x.told(0), 3);
    }
}
