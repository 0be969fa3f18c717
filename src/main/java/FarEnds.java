/** Which wire is which: a cable with its wires, ties, walks, tests, and what may be told from them. */
public final class FarEnds {
    public static final int NONE = -1, UNKNOWN = -1000000001, OUTSIDE = -1000000002, NOT = -1000000003, FULL = -1000000004;

    private static final int BILLION = 1000000000;
    private static final int MOST_WIRES = 5, MOST_LETTERS = 240, MOST_SEEN = 8, MOST_ENTRIES = 15;
    private static final int MOST_UNDONE = 16, IMAGES = 2, MOST_NIGHTS = 60, MOST_REST = 60;
    private static final int LATEST_HOUR = 9000, MOST_COUNTED = 9999;
    private static final int NEAR = 0, GROUPS = 4, KINDS = 4;
    private static final int SOUND = 0, BROKEN = 1, LEAKING = 2, FLAKY = 3;

    /** Ends have the numbers of NET's bits: NEAR ENDS from 0, FAR ENDS from 5, then EARTH. */
    private static final int FIRST_FAR = 5, EARTH = 10, ENDS = 11;

    /** More than the 52 ways to part five ends in groups. */
    private static final int MOST_WAYS = 60;
    private static final int[] FACTORIAL = {1, 1, 2, 6, 24, 120};

    private final Reading reading = new Reading();
    private int wires;
    private final int[] order = new int[MOST_WIRES];
    private final State now = new State();
    private final Past past = new Past();
    private final Draws draws = new Draws();
    private final Image[] images = new Image[IMAGES];
    private final Seen[] seen = new Seen[MOST_SEEN];
    private int seenCount;
    private final int[] bookEnds = new int[MOST_ENTRIES];
    private final int[] bookWires = new int[MOST_ENTRIES];
    private int bookCount;
    private final Nets nets = new Nets();
    private final Orders orders = new Orders();
    private final Guess guess = new Guess();
    private final Ways ways = new Ways();

    public FarEnds() {
        for (int i = 0; i < IMAGES; i++) {
            images[i] = new Image();
        }
        for (int i = 0; i < MOST_SEEN; i++) {
            seen[i] = new Seen();
        }
    }

    // ---- the cable

    public int feed(int letter) {
        if (letter < 0 || letter > 255) {
            return OUTSIDE;
        }
        return reading.add(letter) ? reading.length : FULL;
    }

    public int cable() {
        reading.read();
        if (reading.faultNumber != 0) {
            return -10 - reading.faultNumber;
        }
        wires = reading.wires;
        System.arraycopy(reading.order, 0, order, 0, MOST_WIRES);
        now.begin(reading.kinds, reading.touching);
        past.clear();
        for (int i = 0; i < IMAGES; i++) {
            images[i].kept = false;
        }
        seenCount = 0;
        bookCount = 0;
        return wires;
    }

    public int fault() {
        return reading.faultAt;
    }

    public int told(int what) {
        switch (what) {
            case 0: return wires;
            case 1: return now.place;
            case 2: return now.hours;
            case 3: return now.crosses;
            case 4: return now.tests;
            case 5: return reading.length;
            case 6: return Integer.bitCount(now.touching);
            case 7: return goodWires();
            case 8: return countCouldBe();
            case 9: return bestQuestion();
            case 10: return countLeft();
            case 11: return seenCount;
            case 12: return bookCount;
            case 13: return past.count;
            default: return OUTSIDE;
        }
    }

    public int wire(int w, int what) {
        if (!isNumber(w)) {
            return UNKNOWN;
        }
        switch (what) {
            case 0: return part(now.kinds, w);
            case 1: return farEndOf(w);
            case 2: return passing(now.kinds, now.hours) >> w & 1;
            case 3: return part(now.nearTies, w);
            default: return OUTSIDE;
        }
    }

    public int end(int e, int what) {
        if (!isNumber(e)) {
            return UNKNOWN;
        }
        switch (what) {
            case 0: return order[e];
            case 1: return part(now.farTies, e);
            case 2: return couldBeOf(e);
            case 3: return firstCouldBeOf(e);
            default: return OUTSIDE;
        }
    }

    public int net(int place, int i) {
        if (!isNumber(i)) {
            return UNKNOWN;
        }
        if (place < 0 || place > 1) {
            return OUTSIDE;
        }
        joinAll(now.kinds);
        return nets.of(nodeOf(place, i));
    }

    public int rings(int a, int b) {
        if (!canHold(a, b)) {
            return UNKNOWN;
        }
        return ringsBy(now.kinds, a, b) ? 1 : 0;
    }

    public int touches(int a, int b) {
        if (!areTwo(a, b)) {
            return UNKNOWN;
        }
        return (now.touching & pairBit(a, b)) != 0 ? 1 : 0;
    }

    // ---- what is done

    public int tie(int i, int group) {
        if (!isNumber(i)) {
            return UNKNOWN;
        }
        if (group < 0 || group >= GROUPS) {
            return OUTSIDE;
        }
        int was = part(now.tiesHere(), i);
        if (was == group) {
            return NOT;
        }
        past.remember(now);
        now.tieHere(i, group);
        return was;
    }

    public int cross() {
        int refusal = whyNoTime();
        if (refusal != 0) {
            return refusal;
        }
        past.remember(now);
        now.walk();
        now.hours++;
        return now.hours;
    }

    public int test(int a, int b) {
        if (!canHold(a, b)) {
            return UNKNOWN;
        }
        past.remember(now);
        now.countTest();
        return ringsBy(now.kinds, a, b) ? 1 : 0;
    }

    public int rest(int n) {
        int refusal = n < 1 || n > MOST_REST ? OUTSIDE : whyNoTime();
        if (refusal != 0) {
            return refusal;
        }
        past.remember(now);
        now.hours += n;
        return now.hours;
    }

    public int mend(int w, int kind) {
        if (!isNumber(w)) {
            return UNKNOWN;
        }
        if (kind < 0 || kind >= KINDS) {
            return OUTSIDE;
        }
        int was = part(now.kinds, w);
        if (was == kind) {
            return NOT;
        }
        past.remember(now);
        now.kinds = withPart(now.kinds, w, kind);
        return was;
    }

    public int touch(int a, int b, boolean is) {
        if (!areTwo(a, b)) {
            return UNKNOWN;
        }
        int pair = pairBit(a, b);
        boolean was = (now.touching & pair) != 0;
        if (was == is) {
            return NOT;
        }
        past.remember(now);
        now.touching ^= pair;
        return Integer.bitCount(now.touching);
    }

    public int drift(int n) {
        int refusal = n < 1 || n > MOST_REST ? OUTSIDE : whyNoTime();
        if (refusal != 0) {
            return refusal;
        }
        past.remember(now);
        for (int hour = 0; hour < n; hour++) {
            driftOneHour();
        }
        return now.hours;
    }

    public int undo() {
        if (past.count == 0) {
            return NOT;
        }
        past.restore(now);
        return past.count;
    }

    // ---- tried

    public int cut(int a, int b) {
        if (!areTwo(a, b)) {
            return UNKNOWN;
        }
        int best = NONE;
        for (int set = 0; set < 1 << wires; set++) {
            boolean isFewer = best == NONE || Integer.bitCount(set) < Integer.bitCount(best);
            if (isFewer && !ringsBy(kindsWithBroken(set), a, b)) {
                best = set;
            }
        }
        return best;
    }

    public int ties(int i) {
        if (i != NONE && !isNumber(i)) {
            return UNKNOWN;
        }
        if (wires == 0) {
            return NOT;
        }
        int way = bestWay();
        return i == NONE ? leftByWay(way) : part(way, i) - 1;
    }

    public int dry(int n, int q) {
        if (n < 0 || n > MOST_NIGHTS || q < 0 || q > 100) {
            return OUTSIDE;
        }
        long odds = BILLION;
        for (int night = 0; night < n; night++) {
            odds = odds * q / 100;
        }
        return (int) odds;
    }

    // ---- what is seen

    public int see(int a, int b, boolean rang) {
        if (!canHold(a, b)) {
            return UNKNOWN;
        }
        if (seenCount >= MOST_SEEN) {
            return FULL;
        }
        seen[seenCount].take(now, nodeOf(now.place, a), nodeOf(now.place, b), rang);
        seenCount++;
        return seenCount;
    }

    public int write(int e, int w) {
        if (!isNumber(e) || !isNumber(w)) {
            return UNKNOWN;
        }
        if (bookCount >= MOST_ENTRIES) {
            return FULL;
        }
        bookEnds[bookCount] = e;
        bookWires[bookCount] = w;
        bookCount++;
        return bookCount;
    }

    public int tear() {
        int both = seenCount + bookCount;
        seenCount = 0;
        bookCount = 0;
        return both;
    }

    public int judge() {
        for (int i = 0; i < bookCount && i < MOST_ENTRIES; i++) {
            int e = bookEnds[i];
            if (e >= 0 && e < MOST_WIRES && order[e] != bookWires[i]) {
                return i;
            }
        }
        return NONE;
    }

    // ---- draws, images

    public int seed(int v) {
        if (v < 0) {
            return OUTSIDE;
        }
        int was = draws.seed;
        draws.seed = v;
        return was;
    }

    public int keep(int i) {
        if (i < 0 || i >= IMAGES) {
            return UNKNOWN;
        }
        Image image = images[i];
        image.state.become(now);
        image.seed = draws.seed;
        image.kept = true;
        past.clear();
        return 1;
    }

    public int goBack(int i) {
        if (i < 0 || i >= IMAGES) {
            return UNKNOWN;
        }
        Image image = images[i];
        if (!image.kept) {
            return NOT;
        }
        now.become(image.state);
        draws.seed = image.seed;
        past.clear();
        return 1;
    }

    // ---- numbers of wires and ends

    /** Wires, near ends and far ends all have the numbers 0 to the count of wires less one. */
    private boolean isNumber(int i) {
        return i >= 0 && i < wires && i < MOST_WIRES;
    }

    private boolean areTwo(int a, int b) {
        return isNumber(a) && isNumber(b) && a != b;
    }

    private boolean canHold(int a, int b) {
        return b == NONE ? isNumber(a) : areTwo(a, b);
    }

    private static int nodeOf(int place, int i) {
        if (i == NONE) {
            return EARTH;
        }
        return place == NEAR ? i : FIRST_FAR + i;
    }

    private int farEndOf(int w) {
        for (int e = 0; e < wires && e < MOST_WIRES; e++) {
            if (order[e] == w) {
                return e;
            }
        }
        return NONE;
    }

    /** A row of five small numbers (kinds, groups) is one int of three bits each: cheap to copy and keep. */
    private static int part(int row, int i) {
        return row >> 3 * i & 7;
    }

    private static int withPart(int row, int i, int value) {
        return row & ~(7 << 3 * i) | value << 3 * i;
    }

    private static int pairBit(int a, int b) {
        return 1 << MOST_WIRES * Math.min(a, b) + Math.max(a, b);
    }

    private static int factorial(int n) {
        return n >= 0 && n < FACTORIAL.length ? FACTORIAL[n] : 0;
    }

    // ---- what is joined

    /** The set of wires that pass; of numbers that are no wires, too, which nobody asks for. */
    private static int passing(int kinds, int hour) {
        int set = 0;
        for (int w = 0; w < MOST_WIRES; w++) {
            int kind = part(kinds, w);
            boolean passes = kind == SOUND || kind == LEAKING || kind == FLAKY && (hour & 1) == 0;
            if (passes) {
                set |= 1 << w;
            }
        }
        return set;
    }

    /** Joins what is joined now, were the wires of these kinds. */
    private void joinAll(int kinds) {
        nets.lay(kinds, now.touching, now.nearTies, now.farTies);
        nets.join(order, wires, passing(kinds, now.hours));
    }

    private boolean ringsBy(int kinds, int a, int b) {
        joinAll(kinds);
        return nets.areJoined(nodeOf(now.place, a), nodeOf(now.place, b));
    }

    private int kindsWithBroken(int set) {
        int kinds = now.kinds;
        for (int w = 0; w < wires; w++) {
            if ((set >> w & 1) != 0) {
                kinds = withPart(kinds, w, BROKEN);
            }
        }
        return kinds;
    }

    private int goodWires() {
        joinAll(now.kinds);
        int good = 0;
        for (int e = 0; e < wires && e < MOST_WIRES; e++) {
            int w = order[e];
            if (nets.areJoined(w, FIRST_FAR + e)) {
                good |= 1 << w;
            }
        }
        return good;
    }

    // ---- what is done

    private int whyNoTime() {
        if (wires == 0) {
            return NOT;
        }
        return now.hours > LATEST_HOUR ? FULL : 0;
    }

    private void driftOneHour() {
        int what = draws.draw(4);
        int i = draws.draw(wires);
        if (what == 0) {
            now.tieHere(i, draws.draw(GROUPS));
        } else if (what == 1) {
            if (draws.draw(wires) != i) {
                now.countTest();
            }
        } else if (what == 2) {
            now.walk();
        } else {
            now.kinds = withPart(now.kinds, i, draws.draw(KINDS));
        }
        now.hours++;
    }

    // ---- orders

    /** Without a cable there is no order at all, though none of no wires would make one. */
    private int countOrders() {
        return wires == 0 ? 0 : factorial(wires);
    }

    private void layAllSeen() {
        for (int i = 0; i < seenCount && i < MOST_SEEN; i++) {
            seen[i].lay(now.kinds, now.touching);
        }
    }

    private boolean fitsAllSeen() {
        for (int i = 0; i < seenCount && i < MOST_SEEN; i++) {
            if (!seen[i].fits(orders.wireOf, wires)) {
                return false;
            }
        }
        return true;
    }

    private void guessOrders() {
        guess.clear();
        layAllSeen();
        orders.start();
        int all = countOrders();
        for (int n = 0; n < all; n++) {
            if (fitsAllSeen()) {
                guess.add(orders.wireOf, wires);
            }
            orders.advance(wires);
        }
    }

    private int countCouldBe() {
        guessOrders();
        return guess.count;
    }

    private int couldBeOf(int e) {
        guessOrders();
        return guess.sets[e];
    }

    private int firstCouldBeOf(int e) {
        guessOrders();
        return guess.count == 0 ? NONE : guess.first[e];
    }

    private int bestQuestion() {
        guess.clear();
        layAllSeen();
        nets.lay(now.kinds, now.touching, now.nearTies, now.farTies);
        int passing = passing(now.kinds, now.hours);
        orders.start();
        int all = countOrders();
        for (int n = 0; n < all; n++) {
            if (fitsAllSeen()) {
                nets.join(orders.wireOf, wires, passing);
                guess.add(orders.wireOf, wires);
                guess.hear(nets, now.place, wires);
            }
            orders.advance(wires);
        }
        return guess.bestPair(wires);
    }

    private int countLeft() {
        joinAll(now.kinds);
        int truth = nets.pattern(now.place, wires);
        int passing = passing(now.kinds, now.hours);
        int left = 0;
        orders.start();
        int all = countOrders();
        for (int n = 0; n < all; n++) {
            nets.join(orders.wireOf, wires, passing);
            if (nets.pattern(now.place, wires) == truth) {
                left++;
            }
            orders.advance(wires);
        }
        return left;
    }

    // ---- ways to tie the near ends

    private int bestWay() {
        ways.start();
        int best = ways.row(wires);
        int least = leftByWay(best);
        for (int n = 0; n < MOST_WAYS && ways.advance(wires); n++) {
            int way = ways.row(wires);
            int left = leftByWay(way);
            if (left < least) {
                least = left;
                best = way;
            }
        }
        return best;
    }

    /**
     * How many orders would ring alike at the far place. No far end is tied, so an end rings with just those whose
     * wires pass from the same near net: orders ring alike, if they only change wires within one net, or whole
     * nets of one size; the net of EARTH can be told from all others. To count these is far cheaper than to try
     * every order for every way.
     */
    private int leftByWay(int way) {
        nets.lay(now.kinds, now.touching, way, 0);
        int passing = passing(now.kinds, now.hours) & (1 << wires) - 1;
        int left = 1;
        int earthed = 0;
        int sizes = 0;
        for (int w = 0; w < wires; w++) {
            boolean passes = (passing >> w & 1) != 0;
            int mates = passes ? nets.bare(w) & passing : 1 << w;
            if (passes && nets.isEarthedBare(w)) {
                earthed++;
            } else if ((mates & (1 << w) - 1) == 0) {
                int size = Integer.bitCount(mates);
                int alike = part(sizes, size - 1) + 1;
                sizes = withPart(sizes, size - 1, alike);
                left *= factorial(size) * alike;
            }
        }
        return left * factorial(earthed);
    }

    /** All of section 2 of the document. */
    private static final class State {
        int kinds;
        int touching;
        int nearTies;
        int farTies;
        int place;
        int hours;
        int crosses;
        int tests;

        void begin(int newKinds, int newTouching) {
            kinds = newKinds;
            touching = newTouching;
            nearTies = 0;
            farTies = 0;
            place = NEAR;
            hours = 0;
            crosses = 0;
            tests = 0;
        }

        void become(State other) {
            kinds = other.kinds;
            touching = other.touching;
            nearTies = other.nearTies;
            farTies = other.farTies;
            place = other.place;
            hours = other.hours;
            crosses = other.crosses;
            tests = other.tests;
        }

        int tiesHere() {
            return place == NEAR ? nearTies : farTies;
        }

        void tieHere(int i, int group) {
            if (place == NEAR) {
                nearTies = withPart(nearTies, i, group);
            } else {
                farTies = withPart(farTies, i, group);
            }
        }

        void walk() {
            place = 1 - place;
            crosses = Math.min(crosses + 1, MOST_COUNTED);
        }

        void countTest() {
            tests = Math.min(tests + 1, MOST_COUNTED);
        }
    }

    /** What can be undone: a ring of states, in which the newest takes the place of the oldest. */
    private static final class Past {
        final State[] states = new State[MOST_UNDONE];
        int count;
        int next;

        Past() {
            for (int i = 0; i < MOST_UNDONE; i++) {
                states[i] = new State();
            }
        }

        void clear() {
            count = 0;
            next = 0;
        }

        void remember(State state) {
            if (next < 0 || next >= MOST_UNDONE) {
                next = 0;
            }
            states[next].become(state);
            next = (next + 1) % MOST_UNDONE;
            count = Math.min(count + 1, MOST_UNDONE);
        }

        void restore(State state) {
            if (count == 0) {
                return;
            }
            next = next > 0 && next < MOST_UNDONE ? next - 1 : MOST_UNDONE - 1;
            state.become(states[next]);
            count--;
        }
    }

    private static final class Image {
        final State state = new State();
        int seed;
        boolean kept;
    }

    private static final class Draws {
        int seed;

        int draw(int n) {
            seed = (int) ((seed * 1103515245L + 12345L) & 0x7fffffffL);
            return n <= 0 ? 0 : seed / 65536 % n;
        }
    }

    /** For each end the set of all ends it is joined with, itself, too. */
    private static final class Nets {
        /** Without what passes through wires: the same for every order. */
        private final int[] bare = new int[ENDS];
        private final int[] whole = new int[ENDS];

        void lay(int kinds, int touching, int nearTies, int farTies) {
            for (int i = 0; i < ENDS; i++) {
                bare[i] = 1 << i;
            }
            for (int a = 0; a < MOST_WIRES; a++) {
                if (part(kinds, a) == LEAKING) {
                    merge(bare, a, EARTH);
                }
                for (int b = a + 1; b < MOST_WIRES; b++) {
                    if ((touching & pairBit(a, b)) != 0 || areTied(nearTies, a, b)) {
                        merge(bare, a, b);
                    }
                    if (areTied(farTies, a, b)) {
                        merge(bare, FIRST_FAR + a, FIRST_FAR + b);
                    }
                }
            }
        }

        void join(int[] wireOf, int wires, int passing) {
            System.arraycopy(bare, 0, whole, 0, ENDS);
            for (int e = 0; e < wires && e < wireOf.length; e++) {
                int w = wireOf[e];
                if ((passing >> w & 1) != 0) {
                    merge(whole, w, FIRST_FAR + e);
                }
            }
        }

        int of(int i) {
            return i >= 0 && i < ENDS ? whole[i] : 0;
        }

        int bare(int i) {
            return i >= 0 && i < ENDS ? bare[i] : 0;
        }

        boolean isEarthedBare(int i) {
            return (bare(i) >> EARTH & 1) != 0;
        }

        boolean areJoined(int i, int j) {
            return (of(i) >> j & 1) != 0;
        }

        /** All that rings at a place, pairs and EARTH, in one number: six bits for each end. */
        int pattern(int place, int wires) {
            int first = nodeOf(place, 0);
            int all = 0;
            for (int i = 0; i < wires; i++) {
                int net = of(first + i);
                int heard = net >> first & 31 | (net >> EARTH & 1) << 5;
                all |= heard << 6 * i;
            }
            return all;
        }

        private static boolean areTied(int groups, int a, int b) {
            int group = part(groups, a);
            return group != 0 && group == part(groups, b);
        }

        private static void merge(int[] row, int i, int j) {
            if (i < 0 || i >= row.length || j < 0 || j >= row.length || row[i] == row[j]) {
                return;
            }
            int both = row[i] | row[j];
            for (int k = 0; k < row.length; k++) {
                if ((both >> k & 1) != 0) {
                    row[k] = both;
                }
            }
        }
    }

    /** What was heard once, with the ties, hour and place of then. */
    private static final class Seen {
        private int nearTies;
        private int farTies;
        private int hour;
        private int a;
        private int b;
        private boolean rang;
        private int passing;
        private final Nets nets = new Nets();

        void take(State state, int oneEnd, int otherEnd, boolean itRang) {
            nearTies = state.nearTies;
            farTies = state.farTies;
            hour = state.hours;
            a = oneEnd;
            b = otherEnd;
            rang = itRang;
        }

        void lay(int kinds, int touching) {
            nets.lay(kinds, touching, nearTies, farTies);
            passing = passing(kinds, hour);
        }

        boolean fits(int[] wireOf, int wires) {
            nets.join(wireOf, wires, passing);
            return nets.areJoined(a, b) == rang;
        }
    }

    /** All orders, one after the other, number by number rising. */
    private static final class Orders {
        final int[] wireOf = new int[MOST_WIRES];

        void start() {
            for (int e = 0; e < MOST_WIRES; e++) {
                wireOf[e] = e;
            }
        }

        /** Of the last order none comes after: it stays. */
        void advance(int wires) {
            int count = Math.min(wires, MOST_WIRES);
            int at = count - 2;
            while (at >= 0 && wireOf[at] > wireOf[at + 1]) {
                at--;
            }
            if (at < 0) {
                return;
            }
            int next = count - 1;
            while (next > at + 1 && wireOf[next] < wireOf[at]) {
                next--;
            }
            swap(at, next);
            int low = at + 1;
            for (int high = count - 1; high > low; high--) {
                swap(low, high);
                low++;
            }
        }

        private void swap(int i, int j) {
            int kept = wireOf[i];
            wireOf[i] = wireOf[j];
            wireOf[j] = kept;
        }
    }

    /** What the orders that could be have in common. */
    private static final class Guess {
        int count;
        final int[] sets = new int[MOST_WIRES];
        final int[] first = new int[MOST_WIRES];
        /** By how many of these orders a pair of ends rings. */
        private final int[] ringing = new int[MOST_WIRES * MOST_WIRES];

        void clear() {
            count = 0;
            for (int e = 0; e < MOST_WIRES; e++) {
                sets[e] = 0;
                first[e] = NONE;
            }
            for (int pair = 0; pair < ringing.length; pair++) {
                ringing[pair] = 0;
            }
        }

        void add(int[] wireOf, int wires) {
            for (int e = 0; e < wires && e < MOST_WIRES; e++) {
                sets[e] |= 1 << wireOf[e];
                if (count == 0) {
                    first[e] = wireOf[e];
                }
            }
            count++;
        }

        void hear(Nets nets, int place, int wires) {
            for (int a = 0; a < wires && a < MOST_WIRES; a++) {
                for (int b = a + 1; b < wires && b < MOST_WIRES; b++) {
                    if (nets.areJoined(nodeOf(place, a), nodeOf(place, b))) {
                        ringing[MOST_WIRES * a + b]++;
                    }
                }
            }
        }

        int bestPair(int wires) {
            int best = NONE;
            int least = count;
            for (int a = 0; a < wires && a < MOST_WIRES; a++) {
                for (int b = a + 1; b < wires && b < MOST_WIRES; b++) {
                    int rang = ringing[MOST_WIRES * a + b];
                    int greater = Math.max(rang, count - rang);
                    if (greater < least) {
                        least = greater;
                        best = 10 * a + b;
                    }
                }
            }
            return best;
        }
    }

    /** All ways to part the near ends in groups, the first of like ones first. */
    private static final class Ways {
        private final int[] groups = new int[MOST_WIRES];

        void start() {
            for (int i = 0; i < MOST_WIRES; i++) {
                groups[i] = 0;
            }
        }

        /** False behind the last way. */
        boolean advance(int wires) {
            for (int i = Math.min(wires, MOST_WIRES) - 1; i > 0; i--) {
                if (groups[i] <= mostAhead(i)) {
                    groups[i]++;
                    return true;
                }
                groups[i] = 0;
            }
            return false;
        }

        /** The way as ties: each number one more, as 0 there is not tied. */
        int row(int wires) {
            int row = 0;
            for (int i = 0; i < wires && i < MOST_WIRES; i++) {
                row = withPart(row, i, groups[i] + 1);
            }
            return row;
        }

        private int mostAhead(int i) {
            int most = 0;
            for (int k = 0; k < i && k < MOST_WIRES; k++) {
                most = Math.max(most, groups[k]);
            }
            return most;
        }
    }

    /** The text, and what it tells when it is read. */
    private static final class Reading {
        private static final int CANNOT_STAND = 1, BAD_NUMBER = 2, CABLE_AGAIN = 3, TOLD_ALREADY = 4;
        private static final int BLANK = 32, END = -1, MOST_FIGURES = 3;

        private final int[] text = new int[MOST_LETTERS];
        int length;
        int faultNumber;
        int faultAt = NONE;
        int wires;
        final int[] order = new int[MOST_WIRES];
        int kinds;
        int touching;
        private int at;
        private int number;
        private int numberAt;

        boolean add(int letter) {
            if (length < 0 || length >= MOST_LETTERS) {
                return false;
            }
            text[length] = letter;
            length++;
            return true;
        }

        void read() {
            at = 0;
            wires = 0;
            kinds = 0;
            touching = 0;
            faultNumber = 0;
            faultAt = NONE;
            if (upNext() != END) {
                readOrder();
                for (int n = 0; n < MOST_LETTERS && faultNumber == 0 && upNext() != END; n++) {
                    readClause();
                }
            }
            length = 0;
        }

        private void readOrder() {
            if (!takeWord('c')) {
                return;
            }
            int told = 0;
            for (int e = 0; e < MOST_WIRES; e++) {
                if (!takeNumberWithin(0, MOST_WIRES - 1) || !isNew((told >> number & 1) == 0)) {
                    return;
                }
                told |= 1 << number;
                order[e] = number;
                wires = e + 1;
                boolean areAll = wires >= 2 && told == (1 << wires) - 1;
                int word = upNext();
                boolean isEnd = word == ';' && areAll;
                boolean goesOn = word == ',' && wires < MOST_WIRES;
                if (!isEnd && !goesOn) {
                    blame(CANNOT_STAND, at);
                    return;
                }
                at++;
                if (isEnd) {
                    return;
                }
            }
        }

        private void readClause() {
            int word = upNext();
            if (word == 'k') {
                at++;
                readKind();
            } else if (word == 's') {
                at++;
                readTouch();
            } else {
                blame(word == 'c' ? CABLE_AGAIN : CANNOT_STAND, at);
            }
        }

        private void readKind() {
            if (!takeNumberWithin(0, wires - 1) || !isNew(part(kinds, number) == 0)) {
                return;
            }
            int w = number;
            if (takeNumberWithin(1, KINDS - 1)) {
                kinds = withPart(kinds, w, number);
                takeWord(';');
            }
        }

        private void readTouch() {
            if (!takeNumberWithin(0, wires - 1)) {
                return;
            }
            int a = number;
            if (!takeNumberWithin(0, wires - 1)) {
                return;
            }
            int pair = pairBit(a, number);
            if (isNew(a != number && (touching & pair) == 0)) {
                touching |= pair;
                takeWord(';');
            }
        }

        private int upNext() {
            while (at < length && at < MOST_LETTERS && text[at] == BLANK) {
                at++;
            }
            return letterAt(at);
        }

        private int letterAt(int i) {
            return i >= 0 && i < length && i < MOST_LETTERS ? text[i] : END;
        }

        private boolean takeWord(int word) {
            if (upNext() != word) {
                blame(CANNOT_STAND, at);
                return false;
            }
            at++;
            return true;
        }

        /** A number of more figures may come out as any value: it is refused by their count alone. */
        private boolean takeNumberWithin(int least, int most) {
            if (!isFigure(upNext())) {
                blame(CANNOT_STAND, at);
                return false;
            }
            number = 0;
            numberAt = at;
            while (at < length && isFigure(letterAt(at))) {
                number = number * 10 + letterAt(at) - '0';
                at++;
            }
            if (at - numberAt > MOST_FIGURES || number < least || number > most) {
                blame(BAD_NUMBER, numberAt);
                return false;
            }
            return true;
        }

        private boolean isNew(boolean itIs) {
            if (!itIs) {
                blame(TOLD_ALREADY, numberAt);
            }
            return itIs;
        }

        private static boolean isFigure(int letter) {
            return letter >= '0' && letter <= '9';
        }

        private void blame(int fault, int letter) {
            faultNumber = fault;
            faultAt = letter;
        }
    }
}
