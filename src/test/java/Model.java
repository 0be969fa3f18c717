import java.util.ArrayDeque;
import java.util.ArrayList;
import java.util.Arrays;
import java.util.Deque;
import java.util.List;
import java.util.TreeSet;

/**
 * The document said a second time, in the slowest and plainest way, with no thought for room or time: graphs are
 * walked edge by edge and all orders are tried for everything. It is there to be compared with FarEnds.
 */
final class Model {
    static final int NONE = -1, UNKNOWN = -1000000001, OUTSIDE = -1000000002, NOT = -1000000003, FULL = -1000000004;

    private static final class Now {
        int[] kind = new int[0];
        boolean[][] touch = new boolean[0][0];
        int[][] group = new int[2][0];
        int place;
        int hours;
        int crosses;
        int tests;

        Now copy() {
            Now c = new Now();
            c.kind = kind.clone();
            c.touch = new boolean[touch.length][];
            for (int i = 0; i < touch.length; i++) {
                c.touch[i] = touch[i].clone();
            }
            c.group = new int[][] {group[0].clone(), group[1].clone()};
            c.place = place;
            c.hours = hours;
            c.crosses = crosses;
            c.tests = tests;
            return c;
        }
    }

    private record Seen(int a, int b, boolean rang, int[][] group, int hours, int place) { }

    private record Token(int letter, int at, String figures) { }

    private final List<Integer> text = new ArrayList<>();
    private int faultAt = NONE;
    private int[] order = new int[0];
    private Now now = new Now();
    private long seed;
    private final List<Seen> seen = new ArrayList<>();
    private final List<int[]> book = new ArrayList<>();
    private final Deque<Now> past = new ArrayDeque<>();
    private final Now[] imageNow = new Now[2];
    private final long[] imageSeed = new long[2];

    // ---- the text

    int feed(int letter) {
        if (letter < 0 || letter > 255) return OUTSIDE;
        if (text.size() == 240) return FULL;
        text.add(letter);
        return text.size();
    }

    private List<Token> tokens() {
        List<Token> all = new ArrayList<>();
        int i = 0;
        while (i < text.size()) {
            int letter = text.get(i);
            if (letter == ' ') {
                i++;
            } else if (letter >= '0' && letter <= '9') {
                StringBuilder figures = new StringBuilder();
                int at = i;
                while (i < text.size() && text.get(i) >= '0' && text.get(i) <= '9') {
                    figures.append((char) text.get(i++).intValue());
                }
                all.add(new Token('0', at, figures.toString()));
            } else {
                all.add(new Token(letter, i++, ""));
            }
        }
        return all;
    }

    int cable() {
        List<Token> tokens = tokens();
        int length = text.size();
        text.clear();
        faultAt = NONE;
        if (tokens.isEmpty()) {
            begin(new int[0], new int[0], new boolean[0][0]);
            return 0;
        }
        tokens.add(new Token(-1, length, ""));
        List<Integer> told = new ArrayList<>();
        int[] kinds = new int[5];
        boolean[][] touch = new boolean[5][5];
        String slot = "start";
        int first = 0;
        for (Token t : tokens) {
            TreeSet<Integer> faults = new TreeSet<>();
            boolean isNumber = t.letter == '0';
            long value = isNumber && t.figures.length() < 4 ? Long.parseLong(t.figures) : -1;
            boolean wantsNumber = slot.equals("cW") || slot.equals("kW") || slot.equals("kK") || slot.equals("sA") || slot.equals("sB");
            if (isNumber != wantsNumber) faults.add(1);
            if (slot.equals("start") && t.letter != 'c') faults.add(1);
            if (slot.equals("cSep")) {
                boolean allTold = told.size() > 1;
                for (int w = 0; w < told.size(); w++) allTold &= told.contains(w);
                if (t.letter != ',' && t.letter != ';') faults.add(1);
                if (t.letter == ',' && told.size() == 5) faults.add(1);
                if (t.letter == ';' && !allTold) faults.add(1);
            }
            if (slot.equals("clause") && "cks".indexOf(t.letter) < 0 && t.letter != -1) faults.add(1);
            if (slot.equals("semi") && t.letter != ';') faults.add(1);
            if (!slot.equals("start") && t.letter == 'c') faults.add(3);
            if (isNumber) {
                if (t.figures.length() > 3) faults.add(2);
                int w = (int) value;
                if (slot.equals("cW") && (w < 0 || w > 4)) faults.add(2);
                if (slot.equals("cW") && told.contains(w)) faults.add(4);
                if (slot.equals("kK") && (w < 1 || w > 3)) faults.add(2);
                if ((slot.equals("kW") || slot.equals("sA") || slot.equals("sB")) && !told.contains(w)) faults.add(2);
                if (slot.equals("kW") && w >= 0 && w < 5 && kinds[w] != 0) faults.add(4);
                if (slot.equals("sB") && (w == first || w >= 0 && w < 5 && touch[first][w])) faults.add(4);
            }
            if (!faults.isEmpty()) {
                faultAt = t.at;
                return -10 - faults.first();
            }
            int w = (int) value;
            switch (slot) {
                case "start" -> slot = "cW";
                case "cW" -> { told.add(w); slot = "cSep"; }
                case "cSep" -> slot = t.letter == ',' ? "cW" : "clause";
                case "clause" -> slot = t.letter == 'k' ? "kW" : t.letter == 's' ? "sA" : "over";
                case "kW" -> { first = w; slot = "kK"; }
                case "kK" -> { kinds[first] = w; slot = "semi"; }
                case "sA" -> { first = w; slot = "sB"; }
                case "sB" -> { touch[first][w] = true; touch[w][first] = true; slot = "semi"; }
                default -> slot = "clause";
            }
        }
        begin(told.stream().mapToInt(Integer::intValue).toArray(), kinds, touch);
        return order.length;
    }

    private void begin(int[] newOrder, int[] kinds, boolean[][] touch) {
        order = newOrder;
        int n = order.length;
        now = new Now();
        now.kind = Arrays.copyOf(kinds, n);
        now.touch = new boolean[n][];
        for (int i = 0; i < n; i++) now.touch[i] = Arrays.copyOf(touch[i], n);
        now.group = new int[2][n];
        seen.clear();
        book.clear();
        past.clear();
        imageNow[0] = null;
        imageNow[1] = null;
    }

    int fault() {
        return faultAt;
    }

    // ---- what is joined

    private boolean has(int i) {
        return i >= 0 && i < order.length;
    }

    private boolean two(int a, int b) {
        return has(a) && has(b) && a != b;
    }

    private boolean held(int a, int b) {
        return has(a) && (b == NONE || has(b) && a != b);
    }

    private static boolean passes(int kind, int hour) {
        return kind == 0 || kind == 2 || kind == 3 && hour % 2 == 0;
    }

    /** All ends walked to from one, by the edges of the document: 0-4 near, 5-9 far, 10 earth. */
    private static TreeSet<Integer> walk(int from, int[] order, int[] kind, boolean[][] touch, int[][] group, int hour) {
        int n = order.length;
        boolean[][] edge = new boolean[11][11];
        for (int e = 0; e < n; e++) {
            int w = order[e];
            if (passes(kind[w], hour)) edge[w][5 + e] = true;
            if (kind[w] == 2) edge[w][10] = true;
        }
        for (int a = 0; a < n; a++) {
            for (int b = 0; b < n; b++) {
                if (a == b) continue;
                if (touch[a][b]) edge[a][b] = true;
                if (group[0][a] != 0 && group[0][a] == group[0][b]) edge[a][b] = true;
                if (group[1][a] != 0 && group[1][a] == group[1][b]) edge[5 + a][5 + b] = true;
            }
        }
        TreeSet<Integer> reached = new TreeSet<>();
        Deque<Integer> todo = new ArrayDeque<>();
        todo.add(from);
        while (!todo.isEmpty()) {
            int i = todo.remove();
            if (!reached.add(i)) continue;
            for (int j = 0; j < 11; j++) if (edge[i][j] || edge[j][i]) todo.add(j);
        }
        return reached;
    }

    private static int node(int place, int i) {
        return i == NONE ? 10 : 5 * place + i;
    }

    private boolean ringsBy(int[] o, int[] kind, int a, int b) {
        return walk(node(now.place, a), o, kind, now.touch, now.group, now.hours).contains(node(now.place, b));
    }

    private List<int[]> allOrders() {
        List<int[]> all = new ArrayList<>();
        if (order.length > 0) extend(new int[0], all);
        return all;
    }

    private void extend(int[] ahead, List<int[]> all) {
        if (ahead.length == order.length) {
            all.add(ahead);
            return;
        }
        for (int w = 0; w < order.length; w++) {
            int next = w;
            if (Arrays.stream(ahead).anyMatch(x -> x == next)) continue;
            int[] more = Arrays.copyOf(ahead, ahead.length + 1);
            more[ahead.length] = w;
            extend(more, all);
        }
    }

    private List<int[]> couldBe() {
        List<int[]> left = new ArrayList<>();
        for (int[] o : allOrders()) {
            boolean fits = true;
            for (Seen s : seen) {
                boolean rings = walk(node(s.place, s.a), o, now.kind, now.touch, s.group, s.hours).contains(node(s.place, s.b));
                fits &= rings == s.rang;
            }
            if (fits) left.add(o);
        }
        return left;
    }

    private static String heard(int[] o, Now n, int[][] group, int place) {
        StringBuilder all = new StringBuilder();
        for (int a = 0; a < o.length; a++) {
            TreeSet<Integer> net = walk(5 * place + a, o, n.kind, n.touch, group, n.hours);
            for (int b = 0; b < o.length; b++) all.append(net.contains(5 * place + b) ? '1' : '0');
            all.append(net.contains(10) ? '1' : '0');
        }
        return all.toString();
    }

    private int left(int[][] group, int place) {
        String truth = heard(order, now, group, place);
        int left = 0;
        for (int[] o : allOrders()) if (heard(o, now, group, place).equals(truth)) left++;
        return left;
    }

    private int ask() {
        List<int[]> could = couldBe();
        int best = NONE;
        int least = Integer.MAX_VALUE;
        for (int a = 0; a < order.length; a++) {
            for (int b = a + 1; b < order.length; b++) {
                int yes = 0;
                for (int[] o : could) if (ringsBy(o, now.kind, a, b)) yes++;
                int no = could.size() - yes;
                if (yes == 0 || no == 0) continue;
                if (Math.max(yes, no) < least) {
                    least = Math.max(yes, no);
                    best = 10 * a + b;
                }
            }
        }
        return best;
    }

    private int pairsTouching() {
        int n = 0;
        for (boolean[] row : now.touch) for (boolean b : row) if (b) n++;
        return n / 2;
    }

    int told(int what) {
        switch (what) {
            case 0: return order.length;
            case 1: return now.place;
            case 2: return now.hours;
            case 3: return now.crosses;
            case 4: return now.tests;
            case 5: return text.size();
            case 6: return pairsTouching();
            case 7:
                int good = 0;
                for (int e = 0; e < order.length; e++) {
                    if (walk(order[e], order, now.kind, now.touch, now.group, now.hours).contains(5 + e)) good += 1 << order[e];
                }
                return good;
            case 8: return couldBe().size();
            case 9: return ask();
            case 10: return order.length == 0 ? 0 : left(now.group, now.place);
            case 11: return seen.size();
            case 12: return book.size();
            case 13: return past.size();
            default: return OUTSIDE;
        }
    }

    int wire(int w, int what) {
        if (!has(w)) return UNKNOWN;
        if (what < 0 || what > 3) return OUTSIDE;
        if (what == 0) return now.kind[w];
        if (what == 2) return passes(now.kind[w], now.hours) ? 1 : 0;
        if (what == 3) return now.group[0][w];
        for (int e = 0; ; e++) if (order[e] == w) return e;
    }

    int end(int e, int what) {
        if (!has(e)) return UNKNOWN;
        if (what < 0 || what > 3) return OUTSIDE;
        if (what == 0) return order[e];
        if (what == 1) return now.group[1][e];
        List<int[]> could = couldBe();
        if (what == 3) return could.isEmpty() ? NONE : could.get(0)[e];
        int set = 0;
        for (int[] o : could) set |= 1 << o[e];
        return set;
    }

    int net(int place, int i) {
        if (!has(i)) return UNKNOWN;
        if (place != 0 && place != 1) return OUTSIDE;
        int set = 0;
        for (int k : walk(5 * place + i, order, now.kind, now.touch, now.group, now.hours)) set += 1 << k;
        return set;
    }

    int rings(int a, int b) {
        if (!held(a, b)) return UNKNOWN;
        return ringsBy(order, now.kind, a, b) ? 1 : 0;
    }

    int touches(int a, int b) {
        if (!two(a, b)) return UNKNOWN;
        return now.touch[a][b] ? 1 : 0;
    }

    // ---- what is done

    private void remember() {
        past.addLast(now.copy());
        if (past.size() > 16) past.removeFirst();
    }

    int tie(int i, int group) {
        if (!has(i)) return UNKNOWN;
        if (group < 0 || group > 3) return OUTSIDE;
        int was = now.group[now.place][i];
        if (was == group) return NOT;
        remember();
        now.group[now.place][i] = group;
        return was;
    }

    int cross() {
        if (order.length == 0) return NOT;
        if (now.hours > 9000) return FULL;
        remember();
        now.place = 1 - now.place;
        if (now.crosses < 9999) now.crosses++;
        return ++now.hours;
    }

    int test(int a, int b) {
        if (!held(a, b)) return UNKNOWN;
        remember();
        if (now.tests < 9999) now.tests++;
        return rings(a, b);
    }

    int rest(int n) {
        if (n < 1 || n > 60) return OUTSIDE;
        if (order.length == 0) return NOT;
        if (now.hours > 9000) return FULL;
        remember();
        return now.hours += n;
    }

    int mend(int w, int kind) {
        if (!has(w)) return UNKNOWN;
        if (kind < 0 || kind > 3) return OUTSIDE;
        if (now.kind[w] == kind) return NOT;
        remember();
        int was = now.kind[w];
        now.kind[w] = kind;
        return was;
    }

    int touch(int a, int b, boolean is) {
        if (!two(a, b)) return UNKNOWN;
        if (now.touch[a][b] == is) return NOT;
        remember();
        now.touch[a][b] = is;
        now.touch[b][a] = is;
        return pairsTouching();
    }

    private int draw(int n) {
        seed = (seed * 1103515245L + 12345L) % (1L << 31);
        return (int) (seed / 65536 % n);
    }

    int drift(int n) {
        if (n < 1 || n > 60) return OUTSIDE;
        if (order.length == 0) return NOT;
        if (now.hours > 9000) return FULL;
        remember();
        for (int k = 0; k < n; k++) {
            int what = draw(4);
            int i = draw(order.length);
            switch (what) {
                case 0 -> now.group[now.place][i] = draw(4);
                case 1 -> {
                    int other = draw(order.length);
                    if (other != i && now.tests < 9999) now.tests++;
                }
                case 2 -> {
                    now.place = 1 - now.place;
                    if (now.crosses < 9999) now.crosses++;
                }
                default -> now.kind[i] = draw(4);
            }
            now.hours++;
        }
        return now.hours;
    }

    int undo() {
        if (past.isEmpty()) return NOT;
        now = past.removeLast();
        return past.size();
    }

    // ---- tried

    int cut(int a, int b) {
        if (!two(a, b)) return UNKNOWN;
        for (int many = 0; many <= order.length; many++) {
            for (int set = 0; set < 1 << order.length; set++) {
                if (Integer.bitCount(set) != many) continue;
                int[] kind = now.kind.clone();
                for (int w = 0; w < order.length; w++) if ((set >> w & 1) == 1) kind[w] = 1;
                if (!ringsBy(order, kind, a, b)) return set;
            }
        }
        return NONE;
    }

    private void allWays(int[] ahead, List<int[]> all) {
        if (ahead.length == order.length) {
            all.add(ahead);
            return;
        }
        int most = Arrays.stream(ahead).max().orElse(-1);
        for (int g = 0; g <= most + 1; g++) {
            int[] more = Arrays.copyOf(ahead, ahead.length + 1);
            more[ahead.length] = g;
            allWays(more, all);
        }
    }

    int ties(int i) {
        if (i != NONE && !has(i)) return UNKNOWN;
        if (order.length == 0) return NOT;
        List<int[]> ways = new ArrayList<>();
        allWays(new int[0], ways);
        int[] best = null;
        int least = Integer.MAX_VALUE;
        for (int[] way : ways) {
            int[] tied = Arrays.stream(way).map(g -> g + 1).toArray();
            int left = left(new int[][] {tied, new int[order.length]}, 1);
            if (left < least) {
                least = left;
                best = way;
            }
        }
        return i == NONE ? least : best[i];
    }

    int dry(int n, int q) {
        if (n < 0 || n > 60 || q < 0 || q > 100) return OUTSIDE;
        long odds = 1000000000L;
        for (int k = 0; k < n; k++) odds = odds * q / 100;
        return (int) odds;
    }

    // ---- what is seen

    int see(int a, int b, boolean rang) {
        if (!held(a, b)) return UNKNOWN;
        if (seen.size() == 8) return FULL;
        seen.add(new Seen(a, b, rang, now.copy().group, now.hours, now.place));
        return seen.size();
    }

    int write(int e, int w) {
        if (!has(e) || !has(w)) return UNKNOWN;
        if (book.size() == 15) return FULL;
        book.add(new int[] {e, w});
        return book.size();
    }

    int tear() {
        int both = seen.size() + book.size();
        seen.clear();
        book.clear();
        return both;
    }

    int judge() {
        for (int i = 0; i < book.size(); i++) if (order[book.get(i)[0]] != book.get(i)[1]) return i;
        return NONE;
    }

    // ---- draws, images

    int seed(int v) {
        if (v < 0) return OUTSIDE;
        int was = (int) seed;
        seed = v;
        return was;
    }

    int keep(int i) {
        if (i != 0 && i != 1) return UNKNOWN;
        imageNow[i] = now.copy();
        imageSeed[i] = seed;
        past.clear();
        return 1;
    }

    int goBack(int i) {
        if (i != 0 && i != 1) return UNKNOWN;
        if (imageNow[i] == null) return NOT;
        now = imageNow[i].copy();
        seed = imageSeed[i];
        past.clear();
        return 1;
    }
}
