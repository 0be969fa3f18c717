/** Counts what is not as due, and tells the cable's text to an object. */
final class Check {
    private final String title;
    private int asked;
    private int wrong;

    Check(String title) {
        this.title = title;
    }

    void due(String call, long got, long want) {
        asked++;
        if (got != want) {
            wrong++;
            System.out.println(title + ": " + call + " answered " + got + ", due is " + want);
        }
    }

    void holds(String what, boolean is) {
        due(what, is ? 1 : 0, 1);
    }

    static void feed(FarEnds x, String text) {
        for (int i = 0; i < text.length(); i++) {
            x.feed(text.charAt(i));
        }
    }

    static FarEnds cable(String text) {
        FarEnds x = new FarEnds();
        feed(x, text);
        x.cable();
        return x;
    }

    /** A text is due to be refused with this fault at this letter. */
    void faulty(String text, int fault, int letter) {
        FarEnds x = new FarEnds();
        feed(x, text);
        due("cable() of '" + text + "'", x.cable(), -10 - fault);
        due("fault() of '" + text + "'", x.fault(), letter);
        due("told(5) behind '" + text + "'", x.told(5), 0);
    }

    void sound(String text, int wires) {
        FarEnds x = new FarEnds();
        feed(x, text);
        due("cable() of '" + text + "'", x.cable(), wires);
        due("fault() of '" + text + "'", x.fault(), FarEnds.NONE);
        due("told(0) behind '" + text + "'", x.told(0), wires);
    }

    void end() {
        System.out.println(title + ": " + asked + " asked, " + wrong + " wrong");
        if (wrong != 0) {
            System.exit(1);
        }
    }
}
