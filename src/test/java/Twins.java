import java.util.ArrayList;
import java.util.List;

/**
 * Two objects made alike, of which one is asked for more: later calls show whether it has changed by that. What can be
 * undone, images and a text that is not yet read come to light only by calls that change an object themselves, so each
 * such way to go on has twins of its own; so made, no object is called more than 512 times.
 */
final class Twins {
    interface Deed {
        void on(FarEnds x);
    }

    interface Question {
        int of(FarEnds x);
    }

    private interface Later {
        void tell(FarEnds x, Answers answers);
    }

    /** The answers of later calls, with the calls' names. */
    private static final class Answers {
        final List<String> calls = new ArrayList<>();
        final List<Integer> given = new ArrayList<>();

        void add(String call, int answer) {
            calls.add(call);
            given.add(answer);
        }
    }

    private static final int NONE = -1, MOST_WIRES = 5;

    private final Check check;

    Twins(Check check) {
        this.check = check;
    }

    // ---- states from which a call is refused

    /** No cable, but a seed, a text that has begun and an image of nothing. */
    static void nothing(FarEnds x) {
        x.seed(99);
        x.keep(1);
        Check.feed(x, "c1,0");
    }

    /** Something of everything: four wires, at the far place in hour 4, four orders that could be, four deeds to undo. */
    static void busy(FarEnds x) {
        Check.feed(x, "c2,0,3,1;k1 2;k3 3;s0 2;");
        x.cable();
        x.seed(4711);
        x.tie(0, 1);
        x.tie(3, 1);
        x.test(0, 3);
        x.keep(0);
        x.cross();
        x.tie(1, 2);
        x.tie(2, 2);
        x.see(0, 1, true);
        x.see(3, NONE, true);
        x.write(0, 2);
        x.write(1, 3);
        x.mend(2, 3);
        x.mend(3, 0);
        x.rest(1);
        x.keep(1);
        x.touch(0, 2, false);
        x.rest(2);
        x.tie(0, 3);
        x.test(0, NONE);
        Check.feed(x, "c1,0");
    }

    /** A busy one that has waited for an hour of its later days. */
    static Deed busyUntil(int hour) {
        return x -> {
            busy(x);
            waitUntil(x, hour);
        };
    }

    /** The fewest calls that come to an hour. */
    static void waitUntil(FarEnds x, int hour) {
        int hours = x.told(2);
        while (hours < hour) {
            hours = x.rest(Math.min(60, hour - hours));
        }
    }

    static Deed then(Deed ahead, Deed more) {
        return x -> {
            ahead.on(x);
            more.on(x);
        };
    }

    private static FarEnds made(Deed ahead) {
        FarEnds x = new FarEnds();
        ahead.on(x);
        return x;
    }

    // ---- what is shown

    /** The call is refused so, and nothing has changed by it. */
    void refused(String name, Deed ahead, Question call, int refusal) {
        check.due(name, call.of(made(ahead)), refusal);
        Deed both = x -> {
            ahead.on(x);
            call.of(x);
        };
        alike(name, ahead, both);
        compare(name + ", then the text", ahead, both, Twins::tellText);
    }

    /** Both runs leave an object that later calls cannot tell from the other; but for the latest fault. */
    void alike(String name, Deed one, Deed other) {
        compare(name + ", then a look", one, other, Twins::tellAll);
        compare(name + ", then undo()", one, other, Twins::tellCountsUndone);
        compare(name + ", then undo()", one, other, Twins::tellWiresUndone);
        compare(name + ", then goBack(0)", one, other, (x, answers) -> tellImage(x, answers, 0));
        compare(name + ", then goBack(1)", one, other, (x, answers) -> tellImage(x, answers, 1));
        compare(name + ", then drift(9)", one, other, Twins::tellDrift);
        compare(name + ", then more seen and written", one, other, Twins::tellBooks);
    }

    private void compare(String name, Deed one, Deed other, Later later) {
        Answers want = new Answers();
        Answers got = new Answers();
        later.tell(made(one), want);
        later.tell(made(other), got);
        check.due(name + ": how many answers", got.given.size(), want.given.size());
        int both = Math.min(want.given.size(), got.given.size());
        for (int i = 0; i < both; i++) {
            check.due(name + ": " + got.calls.get(i), got.given.get(i), want.given.get(i));
        }
    }

    // ---- later calls

    private static void tellAll(FarEnds x, Answers answers) {
        for (int what = 0; what <= 13; what++) {
            answers.add("told(" + what + ")", x.told(what));
        }
        for (int i = 0; i < MOST_WIRES; i++) {
            for (int what = 0; what <= 3; what++) {
                answers.add("wire(" + i + ", " + what + ")", x.wire(i, what));
                answers.add("end(" + i + ", " + what + ")", x.end(i, what));
            }
            answers.add("net(0, " + i + ")", x.net(0, i));
            answers.add("net(1, " + i + ")", x.net(1, i));
            answers.add("ties(" + i + ")", x.ties(i));
            answers.add("rings(" + i + ", NONE)", x.rings(i, NONE));
            for (int j = 0; j < i; j++) {
                answers.add("rings(" + i + ", " + j + ")", x.rings(i, j));
                answers.add("touches(" + i + ", " + j + ")", x.touches(i, j));
                answers.add("cut(" + i + ", " + j + ")", x.cut(i, j));
            }
        }
        answers.add("ties(NONE)", x.ties(NONE));
        answers.add("judge()", x.judge());
        answers.add("seed(7)", x.seed(7));
    }

    private static void tellCountsUndone(FarEnds x, Answers answers) {
        int more = 1;
        for (int i = 0; i < 17 && more >= 0; i++) {
            more = x.undo();
            answers.add("undo()", more);
            for (int what : new int[] {1, 2, 3, 4, 6, 13}) {
                answers.add("told(" + what + ")", x.told(what));
            }
        }
    }

    private static void tellWiresUndone(FarEnds x, Answers answers) {
        int wires = x.told(0);
        int more = 1;
        for (int i = 0; i < 17 && more >= 0; i++) {
            more = x.undo();
            answers.add("undo()", more);
            for (int w = 0; w < wires; w++) {
                answers.add("wire(" + w + ", 0)", x.wire(w, 0));
                answers.add("wire(" + w + ", 3)", x.wire(w, 3));
                answers.add("end(" + w + ", 1)", x.end(w, 1));
            }
        }
    }

    private static void tellImage(FarEnds x, Answers answers, int image) {
        answers.add("goBack(" + image + ")", x.goBack(image));
        tellAll(x, answers);
    }

    private static void tellDrift(FarEnds x, Answers answers) {
        answers.add("drift(9)", x.drift(9));
        tellAll(x, answers);
    }

    private static void tellBooks(FarEnds x, Answers answers) {
        for (int i = 0; i < 9; i++) {
            answers.add("see(1, NONE, false)", x.see(1, NONE, false));
        }
        for (int i = 0; i < 16; i++) {
            answers.add("write(0, 2)", x.write(0, 2));
        }
        answers.add("judge()", x.judge());
        answers.add("tear()", x.tear());
        answers.add("told(8)", x.told(8));
    }

    private static void tellText(FarEnds x, Answers answers) {
        answers.add("fault()", x.fault());
        answers.add("feed(';')", x.feed(';'));
        answers.add("cable()", x.cable());
        answers.add("fault()", x.fault());
        tellAll(x, answers);
    }
}
