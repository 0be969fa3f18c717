/** Promises 1 to 4 and section 1, THE CABLE: each sentence that names a boundary, at it and one step to either side. */
public final class CableBoundaryTest {
    private static final int NONE = -1, UNKNOWN = -1000000001, OUTSIDE = -1000000002, NOT = -1000000003, FULL = -1000000004;
    private static final Check CHECK = new Check("CableBoundaryTest");
    private static final Twins TWINS = new Twins(CHECK);
    private static final String[] ORDERS = {"", "", "c1,0;", "c2,0,1;", "c3,1,0,2;", "c4,2,0,3,1;"};
    private static final String FIGURES = "0123456789";

    public static void main(String[] args) {
        newObject();
        letterBounds();
        mostLetters();
        textBeginsAnew();
        emptyText();
        howManyWires();
        orderOfAllWires();
        boundsOfOrder();
        boundsOfWires();
        boundsOfKinds();
        figuresOfNumbers();
        blanks();
        firstWord();
        lettersOfOrder();
        lettersOfClauses();
        theEnd();
        orderAgain();
        toldAlready();
        everyPairAndKind();
        leastOfSeveral();
        firstOfSeveral();
        cableAnew();
        cableWithFault();
        latestFault();
        CHECK.end();
    }

    private static void due(String call, int got, int want) {
        CHECK.due(call, got, want);
    }

    // Promise 1: "No CABLE."
    private static void newObject() {
        FarEnds x = new FarEnds();
        int[] told = {0, 0, 0, 0, 0, 0, 0, 0, 0, NONE, 0, 0, 0, 0};
        for (int what = 0; what < told.length; what++) {
            due("1 new: told(" + what + ")", x.told(what), told[what]);
        }
        due("1 new: fault()", x.fault(), NONE);
        due("1 new: wire(0, 0)", x.wire(0, 0), UNKNOWN);
        due("1 new: end(0, 0)", x.end(0, 0), UNKNOWN);
        due("1 new: ties(NONE)", x.ties(NONE), NOT);
        due("1 new: cross()", x.cross(), NOT);
        due("1 new: undo()", x.undo(), NOT);
        due("1 new: goBack(0)", x.goBack(0), NOT);
        due("1 new: goBack(1)", x.goBack(1), NOT);
        due("1 new: tear()", x.tear(), 0);
        due("1 new: judge()", x.judge(), NONE);
        due("1 new: seed(0)", x.seed(0), 0);
        due("1 new: cable() of no letter", x.cable(), 0);
    }

    // Promise 2: "One letter (a number 0 .. 255) .. OUTSIDE"
    private static void letterBounds() {
        for (int letter : new int[] {Integer.MIN_VALUE, -2, -1, 256, 257, 32 + 256, 99 - 256, Integer.MAX_VALUE}) {
            TWINS.refused("2 feed(" + letter + ")", Twins::busy, x -> x.feed(letter), OUTSIDE);
            TWINS.refused("2 feed(" + letter + ") without a cable", Twins::nothing, x -> x.feed(letter), OUTSIDE);
        }
        FarEnds x = new FarEnds();
        int many = 0;
        for (int letter : new int[] {0, 1, 127, 128, 254, 255}) {
            many++;
            due("2 feed(" + letter + ")", x.feed(letter), many);
        }
        due("2 letters", x.told(5), 6);
    }

    // Promise 2, section 1: "FULL (240)", "240 letters at most"
    private static void mostLetters() {
        String first = "c0,1;" + " ".repeat(230);
        FarEnds x = new FarEnds();
        Check.feed(x, first + "k0 1");
        due("2 letters, one less than may be", x.told(5), 239);
        due("2 feed() of letter 240", x.feed(';'), 240);
        due("2 feed() of letter 241", x.feed(';'), FULL);
        due("2 feed(256) as letter 241", x.feed(256), OUTSIDE);
        due("2 letters at most", x.told(5), 240);
        due("3 cable() of 240 letters", x.cable(), 2);
        due("3 letter 240 counts", x.wire(0, 0), 1);
        Twins.Deed full = Twins.then(Twins::busy, y -> Check.feed(y, ";" + " ".repeat(230) + "k0 2;"));
        TWINS.refused("2 feed(' ') as letter 241", full, y -> y.feed(' '), FULL);
        TWINS.refused("2 feed('x') as letter 241", full, y -> y.feed('x'), FULL);
        TWINS.refused("2 feed(-1) as letter 241", full, y -> y.feed(-1), OUTSIDE);
        FarEnds z = new FarEnds();
        Check.feed(z, first + " k0 1");
        due("2 the ';' that would end it is letter 241", z.feed(';'), FULL);
        due("3 cable() without it", z.cable(), -11);
        due("4 fault() at the text's length", z.fault(), 240);
    }

    // Promise 3: "THE TEXT (it is empty then, with a FAULT, too)"
    private static void textBeginsAnew() {
        FarEnds x = new FarEnds();
        Check.feed(x, "c0,1;");
        due("3 cable()", x.cable(), 2);
        due("3 no letter behind it", x.told(5), 0);
        due("2 feed() behind it", x.feed('c'), 1);
        due("3 cable() with a fault", x.cable(), -11);
        due("3 no letter behind a fault", x.told(5), 0);
        due("2 feed() behind a fault", x.feed('c'), 1);
        Check.feed(x, "0,1,2;");
        due("3 cable() of a whole text behind a fault", x.cable(), 3);
        Check.feed(x, " ".repeat(240));
        due("2 full", x.feed(' '), FULL);
        x.cable();
        due("2 feed() behind a full text", x.feed(' '), 1);
    }

    // Section 1: "An empty text (or one of blanks alone): no CABLE."
    private static void emptyText() {
        for (int blanks : new int[] {0, 1, 2, 239, 240}) {
            FarEnds x = Check.cable("c1,0;");
            Check.feed(x, " ".repeat(blanks));
            due("3 cable() of " + blanks + " blanks", x.cable(), 0);
            due("4 fault() of " + blanks + " blanks", x.fault(), NONE);
            due("3 wires of " + blanks + " blanks", x.told(0), 0);
            due("12 cross() behind " + blanks + " blanks", x.cross(), NOT);
            due("6 wire(0, 0) behind " + blanks + " blanks", x.wire(0, 0), UNKNOWN);
        }
        TWINS.alike("3 cable() of no letter is as a new one", x -> { }, x -> {
            Check.feed(x, "c1,0;k1 2;s0 1;");
            x.cable();
            x.tie(0, 1);
            x.cross();
            x.tie(1, 1);
            x.test(0, 1);
            x.see(0, 1, true);
            x.write(0, 0);
            x.keep(0);
            x.rest(3);
            x.cable();
        });
        CHECK.faulty("" + (char) 31, 1, 0);
        CHECK.faulty("" + (char) 33, 1, 0);
        CHECK.faulty("" + (char) 160, 1, 0);
        CHECK.faulty("\n", 1, 0);
    }

    // Section 1: "2 to 5 of them", "a ',' behind the fifth W; a ';' behind the first W of 'c'"
    private static void howManyWires() {
        CHECK.faulty("c;", 1, 1);
        CHECK.faulty("c0;", 1, 2);
        CHECK.faulty("c0 ;", 1, 3);
        for (int n = 2; n <= 5; n++) {
            CHECK.sound(ORDERS[n], n);
        }
        CHECK.sound("c0,1,2,3,4;", 5);
        CHECK.faulty("c0,1,2,3,4,", 1, 10);
        CHECK.faulty("c0,1,2,3,4 ,5;", 1, 11);
        CHECK.faulty("c0,1,2,3,4,5;", 1, 10);
    }

    // Section 1: "';' .. while W of 'c' are not all of 0 to the greatest"
    private static void orderOfAllWires() {
        CHECK.faulty("c1;", 1, 2);
        CHECK.faulty("c1,2;", 1, 4);
        CHECK.faulty("c0,2;", 1, 4);
        CHECK.faulty("c0,4;", 1, 4);
        CHECK.sound("c0,2,1;", 3);
        CHECK.faulty("c3,2,1;", 1, 6);
        CHECK.sound("c3,2,1,0;", 4);
        CHECK.faulty("c0,1,3;", 1, 6);
        CHECK.faulty("c4,3,2,1;", 1, 8);
        CHECK.faulty("c0,1,2,4 ;", 1, 9);
        CHECK.sound("c4,3,2,1,0;", 5);
        for (int n = 2; n <= 5; n++) {
            FarEnds x = Check.cable(ORDERS[n]);
            for (int e = 0; e < n; e++) {
                int w = ORDERS[n].charAt(1 + 2 * e) - '0';
                due("7 of " + ORDERS[n] + " end(" + e + ", 0)", x.end(e, 0), w);
                due("6 of " + ORDERS[n] + " wire(" + w + ", 1)", x.wire(w, 1), e);
            }
        }
    }

    // Section 1, FAULT 2: "out of its bounds (W of 'c' 0 .. 4)"
    private static void boundsOfOrder() {
        CHECK.sound("c4,0,1,2,3;", 5);
        CHECK.faulty("c5,0;", 2, 1);
        CHECK.faulty("c0,5;", 2, 3);
        CHECK.faulty("c0, 005;", 2, 4);
        CHECK.faulty("c0,1,2,3,5;", 2, 9);
        CHECK.faulty("c0,10;", 2, 3);
        CHECK.faulty("c999,0;", 2, 1);
        CHECK.faulty("c-1,0;", 1, 1);
        CHECK.faulty("c+1,0;", 1, 1);
    }

    // Section 1, FAULT 2: "a WIRE that there is not (at its first)"
    private static void boundsOfWires() {
        for (int n = 2; n <= 5; n++) {
            int at = ORDERS[n].length();
            CHECK.sound(ORDERS[n] + "k0 1;", n);
            CHECK.sound(ORDERS[n] + "k" + (n - 1) + " 1;", n);
            CHECK.faulty(ORDERS[n] + "k" + n + " 1;", 2, at + 1);
            CHECK.faulty(ORDERS[n] + "k 00" + n + " 1;", 2, at + 2);
            CHECK.sound(ORDERS[n] + "s" + (n - 1) + " 0;", n);
            CHECK.faulty(ORDERS[n] + "s" + n + " 0;", 2, at + 1);
            CHECK.faulty(ORDERS[n] + "s" + n + " " + n + ";", 2, at + 1);
            CHECK.sound(ORDERS[n] + "s0 " + (n - 1) + ";", n);
            CHECK.faulty(ORDERS[n] + "s0 " + n + ";", 2, at + 3);
            CHECK.faulty(ORDERS[n] + "s0  00" + n + ";", 2, at + 4);
            CHECK.faulty(ORDERS[n] + "k999 1;", 2, at + 1);
        }
    }

    // Section 1: "WIRE W is of KIND K, 1 .. 3; each once; 0 untold"
    private static void boundsOfKinds() {
        CHECK.faulty("c0,1;k0 0;", 2, 8);
        CHECK.faulty("c0,1;k0 000;", 2, 8);
        CHECK.faulty("c0,1;k0 4;", 2, 8);
        CHECK.faulty("c0,1;k0 10;", 2, 8);
        CHECK.faulty("c0,1;k0 999;", 2, 8);
        for (int kind = 1; kind <= 3; kind++) {
            CHECK.sound("c0,1;k1 " + kind + ";", 2);
            FarEnds x = Check.cable("c0,1;k1 " + kind + ";");
            due("6 wire(1, 0) of kind " + kind, x.wire(1, 0), kind);
            due("6 wire(0, 0) untold", x.wire(0, 0), 0);
        }
    }

    // Section 1: "NUMBERS have one to three figures", FAULT 2: "a NUMBER of four figures or more"
    private static void figuresOfNumbers() {
        CHECK.sound("c0,1;", 2);
        CHECK.sound("c00,01;", 2);
        CHECK.sound("c000,001;", 2);
        CHECK.faulty("c0000,1;", 2, 1);
        CHECK.faulty("c0,0001;", 2, 3);
        CHECK.faulty("c0,00001;", 2, 3);
        CHECK.sound("c0,1;k001 003;", 2);
        CHECK.faulty("c0,1;k0001 3;", 2, 6);
        CHECK.faulty("c0,1;k1 0003;", 2, 8);
        CHECK.sound("c0,1;s001 000;", 2);
        CHECK.faulty("c0,1;s0001 0;", 2, 6);
        CHECK.faulty("c0,1;s1 0000;", 2, 8);
        // these come out as 0 or 1, if figures above what an int holds are lost
        CHECK.faulty("c4294967296,1;", 2, 1);
        CHECK.faulty("c0,4294967297;", 2, 3);
        CHECK.faulty("c0,18446744073709551617;", 2, 3);
        CHECK.faulty("c" + "1".repeat(239), 2, 1);
    }

    // Section 1: "blanks (32) may stand anywhere but within NUMBERS; two NUMBERS side by side need one"
    private static void blanks() {
        CHECK.sound("   c   1   ,   0   ;   k   0   1   ;   s   1   0   ;   ", 2);
        CHECK.sound("c1,0;k0 1;s1 0;", 2);
        CHECK.faulty("c1,0;k01;", 1, 8);
        CHECK.faulty("c1,0;s10;", 2, 6);
        CHECK.faulty("c0 0,1;", 1, 3);
        CHECK.faulty("c0,0 1;", 4, 3);
        CHECK.faulty("c1,0 0;", 1, 5);
        CHECK.faulty("c1,0;k0 0 1;", 2, 8);
        CHECK.faulty("c1,0;k0 1 1;", 1, 10);
        for (int letter : new int[] {0, 9, 10, 13, 31, 33, 160, 255}) {
            CHECK.faulty("c1,0;" + (char) letter, 1, 5);
            CHECK.faulty("c1,0;k0" + (char) letter + "1;", 1, 7);
        }
    }

    // Section 1, FAULT 1: "another word first than 'c'"
    private static void firstWord() {
        CHECK.faulty("k0 1;", 1, 0);
        CHECK.faulty("  s0 1;", 1, 2);
        CHECK.faulty(" ; c0,1;", 1, 1);
        CHECK.faulty("0 c0,1;", 1, 0);
        CHECK.faulty("C0,1;", 1, 0);
        CHECK.faulty(",", 1, 0);
        CHECK.sound("  c0,1;", 2);
    }

    /**
     * All 256 letters behind the beginning of a text. A letter that stands leaves the fault to the end, one that makes it
     * whole leaves none; figures that make a bad number (2) or one told already (4) have it at that number's first, a
     * second 'c' (3) and every other letter (1) at themselves.
     */
    private static final class Sweep {
        private final String begin;
        private String stand = "", whole = "", bad = "", told = "", again = "";
        private int wires, numberAt;

        Sweep(String begin) {
            this.begin = begin;
        }

        Sweep stand(String letters) {
            stand = letters;
            return this;
        }

        Sweep whole(String letters, int ofWires) {
            whole = letters;
            wires = ofWires;
            return this;
        }

        Sweep number(int at, String badFigures, String toldFigures) {
            numberAt = at;
            bad = badFigures;
            told = toldFigures;
            return this;
        }

        Sweep again(String letters) {
            again = letters;
            return this;
        }

        void all() {
            for (int letter = 0; letter < 256; letter++) {
                String text = begin + (char) letter;
                if (whole.indexOf(letter) >= 0) {
                    CHECK.sound(text, wires);
                } else if (stand.indexOf(letter) >= 0) {
                    CHECK.faulty(text, 1, text.length());
                } else if (bad.indexOf(letter) >= 0) {
                    CHECK.faulty(text, 2, numberAt);
                } else if (told.indexOf(letter) >= 0) {
                    CHECK.faulty(text, 4, numberAt);
                } else {
                    CHECK.faulty(text, again.indexOf(letter) >= 0 ? 3 : 1, begin.length());
                }
            }
        }
    }

    private static Sweep behind(String begin) {
        return new Sweep(begin);
    }

    // Section 1, FAULT 1: "it cannot stand there (a letter that is no word ..", in 'c'
    private static void lettersOfOrder() {
        behind("   ").stand("c").whole(" ", 0).all();
        behind("c").stand(" 01234").number(1, "56789", "").all();
        behind("c0").stand(" ,01234").number(1, "56789", "").all();
        behind("c0 ").stand(" ,").all();
        behind("c0,").stand(" 1234").number(3, "56789", "0").all();
        behind("c0,1").stand(" ,").whole(";", 2).number(3, FIGURES, "").all();
        behind("c0,1 ").stand(" ,").whole(";", 2).all();
        behind("c0,1,").stand(" 234").number(5, "56789", "01").all();
        behind("c0,1,2,3").stand(" ,").whole(";", 4).number(7, FIGURES, "").all();
        behind("c0,1,2,3,").stand(" 4").number(9, "56789", "0123").all();
        behind("c0,1,2,3,4").stand(" ").whole(";", 5).number(9, FIGURES, "").all();
        behind("c0,1,2,3,4 ").stand(" ").whole(";", 5).all();
        behind("c1,2").stand(" ,").number(3, FIGURES, "").all();
        behind("c001").stand(" ,").number(1, FIGURES, "").all();
    }

    // Section 1, FAULT 1, in 'k' and 's'
    private static void lettersOfClauses() {
        behind("c0,1;").stand("ks").whole(" ", 2).again("c").all();
        behind("c0,1;k").stand(" 01").number(6, "23456789", "").all();
        behind("c0,1;k0").stand(" 01").number(6, "23456789", "").all();
        behind("c0,1;k0 ").stand(" 123").number(8, "0456789", "").all();
        behind("c0,1;k0 1").stand(" ").whole(";", 2).number(8, FIGURES, "").all();
        behind("c0,1;k0 1 ").stand(" ").whole(";", 2).all();
        behind("c0,1;k0 1;").stand("ks").whole(" ", 2).again("c").all();
        behind("c0,1;k1 1;k").stand(" 0").number(11, "23456789", "1").all();
        behind("c0,1;s").stand(" 01").number(6, "23456789", "").all();
        behind("c0,1;s1 ").stand(" 0").number(8, "23456789", "1").all();
        behind("c0,1;s0 ").stand(" 1").number(8, "23456789", "0").all();
        behind("c0,1;s0 1").stand(" ").whole(";", 2).number(8, FIGURES, "").all();
        behind("c0,1;s0 1 ").stand(" ").whole(";", 2).all();
        behind("c0,1;s0 1;").stand("ks").whole(" ", 2).again("c").all();
        behind("c0,1;s0 1;s1 ").stand(" ").number(13, "23456789", "01").all();
        behind("c0,1;s0 1;s0 ").stand(" ").number(13, "23456789", "01").all();
    }

    // Section 1, FAULTS: "(the end at the text's length)"
    private static void theEnd() {
        String text = "c1,0;k1 2;s0 1;";
        for (int length = 1; length < text.length(); length++) {
            String begun = text.substring(0, length);
            if (length == 5 || length == 10) {
                CHECK.sound(begun, 2);
                CHECK.sound(begun + "  ", 2);
            } else {
                CHECK.faulty(begun, 1, length);
                CHECK.faulty(begun + "  ", 1, length + 2);
            }
        }
        CHECK.sound(text, 2);
        CHECK.faulty("c1,0" + " ".repeat(235), 1, 239);
        CHECK.faulty("c1,0" + " ".repeat(236), 1, 240);
        CHECK.sound("c1,0" + " ".repeat(235) + ";", 2);
    }

    // Section 1: "'c' .. first, once", FAULT 3: "'c' again (at it)"
    private static void orderAgain() {
        CHECK.faulty("c0,1;c", 3, 5);
        CHECK.faulty("c0,1;  c0,1;", 3, 7);
        CHECK.faulty("c0,1;k0 1;c", 3, 10);
        CHECK.faulty("c0,1;s0 1;c0", 3, 10);
        CHECK.faulty("c0,1;k0 1;s0 1; cc", 3, 16);
    }

    // Section 1, FAULT 4: "a W told already (by 'c', by 'k'; at it); B like A, or both told already (.. at the B)"
    private static void toldAlready() {
        CHECK.faulty("c0,0;", 4, 3);
        CHECK.faulty("c1, 001;", 4, 4);
        CHECK.faulty("c0,1,2,3,0;", 4, 9);
        CHECK.faulty("c0,1,2,3,3", 4, 9);
        CHECK.sound("c0,1,2,3,4;k4 1;k3 1;", 5);
        CHECK.faulty("c0,1,2,3,4;k4 1;k4 1;", 4, 17);
        CHECK.faulty("c0,1,2,3,4;k4 1;k3 1;k 004 2;", 4, 23);
        CHECK.faulty("c0,1;s1 1;", 4, 8);
        CHECK.faulty("c0,1;s1  001;", 4, 9);
        CHECK.faulty("c0,1;s0 1;s0 1;", 4, 13);
        CHECK.faulty("c0,1;s0 1;s1 0;", 4, 13);
        CHECK.faulty("c0,1;s1 0;s0 1;", 4, 13);
        CHECK.sound("c0,1,2;s0 1;s1 2;s2 0;", 3);
        CHECK.faulty("c0,1,2;s0 1;s1 2;s2 0;s2 1;", 4, 25);
    }

    // Section 1: "each once" of all five wires, "each two once" of all ten pairs, and one more of each
    private static void everyPairAndKind() {
        StringBuilder kinds = new StringBuilder("c0,1,2,3,4;");
        for (int w = 0; w < 5; w++) {
            kinds.append("k").append(w).append(" 1;");
            CHECK.sound(kinds.toString(), 5);
        }
        StringBuilder pairs = new StringBuilder("c0,1,2,3,4;");
        int many = 0;
        for (int a = 0; a < 5; a++) {
            for (int b = 0; b < a; b++) {
                pairs.append("s").append(a).append(" ").append(b).append(";");
                many++;
                due("5 pairs that touch", Check.cable(pairs.toString()).told(6), many);
            }
        }
        CHECK.sound(pairs.toString(), 5);
        for (int a = 0; a < 5; a++) {
            CHECK.faulty(kinds + "k" + a + " 2;", 4, kinds.length() + 1);
            for (int b = 0; b < 5; b++) {
                CHECK.faulty(pairs + "s" + a + " " + b + ";", 4, pairs.length() + 3);
            }
        }
    }

    // Section 1, FAULTS: "of these the least": one letter that has two faults
    private static void leastOfSeveral() {
        CHECK.faulty("9999", 1, 0);
        CHECK.faulty("c0,1;9999;", 1, 5);
        CHECK.faulty("c0,1 9999;", 1, 5);
        CHECK.faulty("c0,1,2,3,4 4;", 1, 11);
        CHECK.faulty("c0,1;k0 1 9999;", 1, 10);
        CHECK.faulty("cc0,1;", 1, 1);
        CHECK.faulty("c0c", 1, 2);
        CHECK.faulty("c0,1c", 1, 4);
        CHECK.faulty("c0,1;kc", 1, 6);
        CHECK.faulty("c0,1;k0 c", 1, 8);
        CHECK.faulty("c0,1;k0 1c", 1, 9);
        CHECK.faulty("c0,1;s0 c", 1, 8);
        CHECK.faulty("c0,0000;", 2, 3);
        CHECK.faulty("c0,1;k0 1;k0000 1;", 2, 11);
        CHECK.faulty("c0,1;s0 0000;", 2, 8);
        CHECK.faulty("c0,1;s0 1;s1 0000;", 2, 13);
    }

    // Section 1, FAULTS: "at the first letter that has one", whatever comes behind
    private static void firstOfSeveral() {
        CHECK.faulty("c0,0,5,x", 4, 3);
        CHECK.faulty("c0,5,0;c", 2, 3);
        CHECK.faulty("c0,1;c;k9 9;", 3, 5);
        CHECK.faulty("c0,1;k0 1;k0 9;", 4, 11);
        CHECK.faulty("c0,1;k9 1;x", 2, 6);
        CHECK.faulty("c0,1;k0 9;c", 2, 8);
        CHECK.faulty("c0,1;x c 9999", 1, 5);
    }

    // Promise 3: "HOUR 0, one is at the NEAR place, nothing TIED, counted; nothing SEEN, no BOOK; IMAGES, what could be undone
    // are gone; THE SEED stays"
    private static void cableAnew() {
        for (int n = 2; n <= 5; n++) {
            String text = ORDERS[n] + "k1 3;s1 0;";
            Twins.Deed fresh = x -> {
                x.seed(4711);
                Check.feed(x, text);
                x.cable();
            };
            Twins.Deed anew = Twins.then(Twins::busy, x -> {
                x.cable();
                Check.feed(x, text);
                x.cable();
            });
            TWINS.alike("3 cable() anew of " + text, fresh, anew);
        }
        FarEnds x = new FarEnds();
        Twins.busy(x);
        x.cable();
        Check.feed(x, "c1,0,2;");
        due("3 cable() anew", x.cable(), 3);
        int[] told = {3, 0, 0, 0, 0, 0, 0, 7, 6, NONE, 6, 0, 0, 0};
        for (int what = 0; what < told.length; what++) {
            due("3 anew: told(" + what + ")", x.told(what), told[what]);
        }
        for (int i = 0; i < 3; i++) {
            due("3 anew: wire(" + i + ", 0)", x.wire(i, 0), 0);
            due("3 anew: wire(" + i + ", 3)", x.wire(i, 3), 0);
            due("3 anew: end(" + i + ", 1)", x.end(i, 1), 0);
        }
        due("3 anew: undo()", x.undo(), NOT);
        due("3 anew: goBack(0)", x.goBack(0), NOT);
        due("3 anew: goBack(1)", x.goBack(1), NOT);
        due("3 anew: the wire there was", x.wire(3, 0), UNKNOWN);
        due("3 anew: the seed stays", x.seed(0), 4711);
    }

    // Promise 3: "-10 less the number of its FAULT (all else is as it was)"
    private static void cableWithFault() {
        String[] texts = {"x", "c1,0;k1 2;s1 0;k0 5;", "c0,1;c", "c4,3,2,1,0;s0 1;s1 0;"};
        for (int i = 0; i < texts.length; i++) {
            String text = texts[i];
            Twins.Deed ahead = Twins.then(Twins::busy, x -> x.cable());
            Twins.Deed faulty = Twins.then(ahead, x -> {
                Check.feed(x, text);
                x.cable();
            });
            TWINS.alike("3 cable() with fault " + (i + 1), ahead, faulty);
            CHECK.due("3 cable() of '" + text + "'", faultOf(text), -11 - i);
        }
    }

    private static int faultOf(String text) {
        FarEnds x = new FarEnds();
        Check.feed(x, text);
        return x.cable();
    }

    // Promise 4: "The letter of the FAULT of the latest cable(); NONE."
    private static void latestFault() {
        FarEnds x = new FarEnds();
        due("4 fault() ahead of any cable()", x.fault(), NONE);
        x.feed('x');
        due("4 fault() of a text that is not read", x.fault(), NONE);
        x.cable();
        due("4 fault() at the first letter", x.fault(), 0);
        Check.feed(x, "c0,1;x");
        due("4 fault() stays until the next cable()", x.fault(), 0);
        x.cable();
        due("4 fault() of the latest", x.fault(), 5);
        due("4 fault() asked again", x.fault(), 5);
        Check.feed(x, "c0,1;");
        x.cable();
        due("4 fault() of a sound text", x.fault(), NONE);
        Check.feed(x, "c0,1" + " ".repeat(236));
        x.cable();
        due("4 fault() at the greatest letter", x.fault(), 240);
        x.cable();
        due("4 fault() of an empty text", x.fault(), NONE);
    }
}
