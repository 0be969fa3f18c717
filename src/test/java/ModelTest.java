import java.util.Random;

/** Long runs of calls made by draws of a fixed seed, each answer compared with the Model's. */
public final class ModelTest {
    private static final int RUNS = 400, CALLS = 512;
    private static final int[] ODD_NUMBERS = {-1, -2, 5, 6, 31, 32, Integer.MIN_VALUE, Integer.MAX_VALUE, -1000000001, 64, 1 << 30};

    private final Random random = new Random(20261117);
    private final Check check = new Check("ModelTest");
    private FarEnds x;
    private Model m;
    private int calls;
    private int run;

    public static void main(String[] args) {
        ModelTest t = new ModelTest();
        for (t.run = 0; t.run < RUNS; t.run++) {
            t.oneRun();
        }
        t.manyTexts();
        t.check.end();
    }

    private void oneRun() {
        x = new FarEnds();
        m = new Model();
        calls = 0;
        if (random.nextInt(8) != 0) {
            tell(soundText());
        }
        boolean isDear = run % 4 == 0;
        while (calls < CALLS) {
            if (random.nextInt(120) == 0) {
                tell(random.nextInt(3) == 0 ? anyText() : soundText());
            }
            oneCall(isDear);
        }
    }

    /** Texts alone, three to an object: faults are many, and a run has few. */
    private void manyTexts() {
        for (int i = 0; i < 60000; i++) {
            if (i % 3 == 0) {
                x = new FarEnds();
                m = new Model();
            }
            String text = anyText();
            tell(text);
            for (int w = 0; w < 5; w++) {
                due("wire(" + w + ", 0) of '" + text + "'", x.wire(w, 0), m.wire(w, 0));
                due("wire(" + w + ", 1) of '" + text + "'", x.wire(w, 1), m.wire(w, 1));
                for (int v = 0; v < 5; v++) {
                    due("touches(" + w + ", " + v + ") of '" + text + "'", x.touches(w, v), m.touches(w, v));
                }
            }
        }
    }

    private void due(String call, int got, int want) {
        calls++;
        check.due("run " + run + ", call " + calls + ": " + call, got, want);
    }

    private void tell(String text) {
        for (int i = 0; i < text.length(); i++) {
            int letter = text.charAt(i);
            due("feed(" + letter + ")", x.feed(letter), m.feed(letter));
        }
        due("cable() of '" + text + "'", x.cable(), m.cable());
        due("fault() of '" + text + "'", x.fault(), m.fault());
    }

    private String soundText() {
        int n = 2 + random.nextInt(4);
        int[] order = new int[n];
        for (int i = 0; i < n; i++) {
            int j = random.nextInt(i + 1);
            order[i] = order[j];
            order[j] = i;
        }
        StringBuilder text = new StringBuilder("c");
        for (int i = 0; i < n; i++) {
            text.append(i == 0 ? "" : ",").append(order[i]);
        }
        text.append(';');
        for (int w = 0; w < n; w++) {
            if (random.nextInt(2) == 0) {
                text.append('k').append(w).append(' ').append(1 + random.nextInt(3)).append(';');
            }
        }
        for (int a = 0; a < n; a++) {
            for (int b = a + 1; b < n; b++) {
                if (random.nextInt(6) == 0) {
                    text.append('s').append(random.nextBoolean() ? a + " " + b : b + " " + a).append(';');
                }
            }
        }
        return text.toString();
    }

    /** A sound text with some letters changed, lost, put in or doubled. */
    private String anyText() {
        String letters = "cks,; 0123459k s;;  ,x\t";
        StringBuilder text = new StringBuilder(soundText());
        int changes = random.nextInt(4);
        for (int i = 0; i < changes && text.length() > 0; i++) {
            int at = random.nextInt(text.length());
            char letter = letters.charAt(random.nextInt(letters.length()));
            switch (random.nextInt(5)) {
                case 0 -> text.setCharAt(at, letter);
                case 1 -> text.deleteCharAt(at);
                case 2 -> text.insert(at, letter);
                case 3 -> text.setLength(at);
                default -> text.append(text.substring(at, Math.min(text.length(), at + 5)));
            }
        }
        return text.substring(0, Math.min(240, text.length()));
    }

    private int number(int bound) {
        return random.nextInt(12) == 0 ? ODD_NUMBERS[random.nextInt(ODD_NUMBERS.length)] : random.nextInt(bound);
    }

    private int held() {
        return random.nextInt(4) == 0 ? -1 : number(5);
    }

    private void oneCall(boolean isDear) {
        int a = number(5);
        int b = number(5);
        boolean is = random.nextBoolean();
        int h = held();
        int letter = random.nextInt(20) == 0 ? number(300) : random.nextInt(256);
        int what = number(15);
        int n = random.nextInt(6) == 0 ? number(70) : random.nextInt(4);
        int v = random.nextInt();
        switch (random.nextInt(isDear ? 31 : 30)) {
            case 0 -> due("feed(" + letter + ")", x.feed(letter), m.feed(letter));
            case 1, 2, 3 -> due("told(" + what + ")", x.told(what), m.told(what));
            case 4 -> due("wire(" + a + ", " + b + ")", x.wire(a, b), m.wire(a, b));
            case 5, 6 -> due("end(" + a + ", " + b + ")", x.end(a, b), m.end(a, b));
            case 7 -> due("net(" + n % 3 + ", " + b + ")", x.net(n % 3, b), m.net(n % 3, b));
            case 8 -> due("rings(" + a + ", " + h + ")", x.rings(a, h), m.rings(a, h));
            case 9 -> due("touches(" + a + ", " + b + ")", x.touches(a, b), m.touches(a, b));
            case 10, 11, 12 -> due("tie(" + a + ", " + b + ")", x.tie(a, b), m.tie(a, b));
            case 13 -> due("cross()", x.cross(), m.cross());
            case 14 -> due("test(" + a + ", " + h + ")", x.test(a, h), m.test(a, h));
            case 15 -> due("rest(" + n + ")", x.rest(n), m.rest(n));
            case 16 -> due("mend(" + a + ", " + b + ")", x.mend(a, b), m.mend(a, b));
            case 17 -> due("touch(" + a + ", " + b + ", " + is + ")", x.touch(a, b, is), m.touch(a, b, is));
            case 18 -> due("drift(" + n + ")", x.drift(n), m.drift(n));
            case 19 -> due("undo()", x.undo(), m.undo());
            case 20 -> due("cut(" + a + ", " + h + ")", x.cut(a, h), m.cut(a, h));
            case 21 -> due("dry(" + n + ", " + letter % 110 + ")", x.dry(n, letter % 110), m.dry(n, letter % 110));
            case 22, 23 -> see(a, h, is);
            case 24 -> due("write(" + a + ", " + b + ")", x.write(a, b), m.write(a, b));
            case 25 -> tearSeldom();
            case 26 -> due("judge()", x.judge(), m.judge());
            case 27 -> due("seed(" + v + ")", x.seed(v), m.seed(v));
            case 28 -> due("keep(" + n + ")", x.keep(n), m.keep(n));
            case 29 -> due("goBack(" + n + ")", x.goBack(n), m.goBack(n));
            default -> due("ties(" + h + ")", x.ties(h), m.ties(h));
        }
    }

    /** What is seen is mostly what is so: else no order is left after two or three. */
    private void see(int a, int b, boolean is) {
        int truly = m.rings(a, b);
        boolean rang = random.nextInt(4) == 0 ? is : truly == 1;
        due("see(" + a + ", " + b + ", " + rang + ")", x.see(a, b, rang), m.see(a, b, rang));
    }

    private void tearSeldom() {
        if (random.nextInt(3) == 0) {
            due("tear()", x.tear(), m.tear());
        }
    }
}
