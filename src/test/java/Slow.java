import java.util.ArrayDeque;
import java.util.ArrayList;
import java.util.Arrays;
import java.util.List;
import java.util.TreeSet;

/** A sheet judged in the slowest and plainest way, by the document's words, to hold the class against. */
final class Slow {
    static final int[] DX = {0, 1, 0, -1};
    static final int[] DY = {-1, 0, 1, 0};

    /** A bridge: squares as y * 100 + x. */
    static final class Span {
        int kind;
        int lasts;
        boolean hidden;
        final TreeSet<Integer> squares = new TreeSet<>();
    }

    final int wide;
    final int high;
    int statements = 0;
    final boolean[][] through;
    final int[][] worth;
    boolean[] held = {true, true, true, true};
    int brush = 0;
    int wear = 0;
    final List<boolean[][]> shapes = new ArrayList<>();
    final List<Span> spans = new ArrayList<>();
    int in = 0;

    Slow(int wide, int high) {
        this.wide = wide;
        this.high = high;
        through = new boolean[high][wide];
        worth = new int[high][wide];
        for (int[] row : worth) {
            Arrays.fill(row, 1);
        }
    }

    boolean has(int x, int y) {
        return x >= 0 && y >= 0 && x < wide && y < high;
    }

    static boolean[][] turnOnce(boolean[][] from) {
        int h = from.length;
        int w = from[0].length;
        boolean[][] to = new boolean[w][h];
        for (int y = 0; y < h; y++) {
            for (int x = 0; x < w; x++) {
                to[x][h - 1 - y] = from[y][x];
            }
        }
        return to;
    }

    void putShape(int shape, int x0, int y0, int turns) {
        boolean[][] now = shapes.get(shape);
        for (int k = 0; k < turns; k++) {
            now = turnOnce(now);
        }
        for (int y = 0; y < now.length; y++) {
            for (int x = 0; x < now[0].length; x++) {
                if (now[y][x] && has(x0 + x, y0 + y)) {
                    through[y0 + y][x0 + x] = true;
                }
            }
        }
    }

    void span(Span s, int x, int y, int side, int length) {
        for (int k = 0; k < length; k++) {
            if (has(x, y)) {
                s.squares.add(y * 100 + x);
            }
            x += DX[side];
            y += DY[side];
        }
    }

    boolean[][] tin(int set) {
        boolean[][] t = new boolean[high][wide];
        for (int y = 0; y < high; y++) {
            for (int x = 0; x < wide; x++) {
                t[y][x] = !through[y][x];
                for (int b = 0; b < spans.size(); b++) {
                    t[y][x] |= (set >> b & 1) == 1 && spans.get(b).squares.contains(y * 100 + x);
                }
            }
        }
        return t;
    }

    boolean rim(int x, int y) {
        return held[0] && y == 0 || held[1] && x == wide - 1 || held[2] && y == high - 1 || held[3] && x == 0;
    }

    boolean[][] hangs(boolean[][] tin) {
        boolean[][] roots = new boolean[high][wide];
        for (int y = 0; y < high; y++) {
            for (int x = 0; x < wide; x++) {
                roots[y][x] = rim(x, y);
            }
        }
        return reach(tin, roots);
    }

    boolean[][] reach(boolean[][] tin, boolean[][] roots) {
        boolean[][] seen = new boolean[high][wide];
        ArrayDeque<Integer> todo = new ArrayDeque<>();
        for (int y = 0; y < high; y++) {
            for (int x = 0; x < wide; x++) {
                if (tin[y][x] && roots[y][x]) {
                    seen[y][x] = true;
                    todo.add(y * 100 + x);
                }
            }
        }
        while (!todo.isEmpty()) {
            int at = todo.poll();
            for (int k = 0; k < 4; k++) {
                int x = at % 100 + DX[k];
                int y = at / 100 + DY[k];
                if (has(x, y) && tin[y][x] && !seen[y][x]) {
                    seen[y][x] = true;
                    todo.add(y * 100 + x);
                }
            }
        }
        return seen;
    }

    static int number(boolean[][] squares) {
        int n = 0;
        for (boolean[] row : squares) {
            for (boolean b : row) {
                n += b ? 1 : 0;
            }
        }
        return n;
    }

    int loose(boolean[][] tin) {
        return number(tin) - number(hangs(tin));
    }

    boolean[][] minus(boolean[][] a, boolean[][] b) {
        boolean[][] c = new boolean[high][wide];
        for (int y = 0; y < high; y++) {
            for (int x = 0; x < wide; x++) {
                c[y][x] = a[y][x] && !b[y][x];
            }
        }
        return c;
    }

    /** Joined squares, each list in the order of y, then x; the lists by their first. */
    List<TreeSet<Integer>> parts(boolean[][] of) {
        List<TreeSet<Integer>> all = new ArrayList<>();
        boolean[][] done = new boolean[high][wide];
        for (int y = 0; y < high; y++) {
            for (int x = 0; x < wide; x++) {
                if (of[y][x] && !done[y][x]) {
                    boolean[][] root = new boolean[high][wide];
                    root[y][x] = true;
                    boolean[][] got = reach(of, root);
                    TreeSet<Integer> part = new TreeSet<>();
                    for (int b = 0; b < high; b++) {
                        for (int a = 0; a < wide; a++) {
                            if (got[b][a]) {
                                part.add(b * 100 + a);
                                done[b][a] = true;
                            }
                        }
                    }
                    all.add(part);
                }
            }
        }
        return all;
    }

    List<TreeSet<Integer>> pieces(int set) {
        boolean[][] t = tin(set);
        return parts(minus(t, hangs(t)));
    }

    List<TreeSet<Integer>> holes() {
        boolean[][] all = new boolean[high][wide];
        for (boolean[] row : all) {
            Arrays.fill(row, true);
        }
        return parts(minus(all, tin(in)));
    }

    int gap(TreeSet<Integer> piece) {
        boolean[][] t = tin(in);
        int best = -1;
        for (int from : piece) {
            int[][] far = new int[high][wide];
            for (int[] row : far) {
                Arrays.fill(row, -1);
            }
            ArrayDeque<Integer> todo = new ArrayDeque<>();
            far[from / 100][from % 100] = 0;
            todo.add(from);
            while (!todo.isEmpty()) {
                int at = todo.poll();
                for (int k = 0; k < 4; k++) {
                    int x = at % 100 + DX[k];
                    int y = at / 100 + DY[k];
                    if (!has(x, y) || far[y][x] >= 0) {
                        continue;
                    }
                    int so = far[at / 100][at % 100];
                    if (!t[y][x]) {
                        far[y][x] = so + 1;
                        todo.add(y * 100 + x);
                    } else if (!piece.contains(y * 100 + x) && (best < 0 || so < best)) {
                        best = so;
                    }
                }
            }
        }
        return best;
    }

    int tongue(boolean[][] tin, boolean[][] roots, int x, int y) {
        boolean[][] before = reach(tin, roots);
        if (!before[y][x]) {
            return 0;
        }
        boolean[][] without = new boolean[high][];
        for (int k = 0; k < high; k++) {
            without[k] = tin[k].clone();
        }
        without[y][x] = false;
        return number(before) - 1 - number(reach(without, roots));
    }

    boolean[][] rims() {
        boolean[][] roots = new boolean[high][wide];
        for (int y = 0; y < high; y++) {
            for (int x = 0; x < wide; x++) {
                roots[y][x] = rim(x, y);
            }
        }
        return roots;
    }

    int[][] tongues(boolean[][] tin, boolean[][] roots) {
        int[][] all = new int[high][wide];
        for (int y = 0; y < high; y++) {
            for (int x = 0; x < wide; x++) {
                all[y][x] = tin[y][x] ? tongue(tin, roots, x, y) : 0;
            }
        }
        return all;
    }

    int[][] tonguesFrom(int x, int y) {
        boolean[][] roots = new boolean[high][wide];
        roots[y][x] = true;
        int[][] all = tongues(tin(in), roots);
        all[y][x] = 0;
        return all;
    }

    static int greatest(int[][] of) {
        int most = 0;
        for (int[] row : of) {
            for (int v : row) {
                most = Math.max(most, v);
            }
        }
        return most;
    }

    /** Only necks have tongues: 0 is none. */
    static int above(int[][] of, int n) {
        int many = 0;
        for (int[] row : of) {
            for (int v : row) {
                many += v > 0 && v > n ? 1 : 0;
            }
        }
        return many;
    }

    int seen(int set, Slow next) {
        int sum = 0;
        for (int y = 0; y < high; y++) {
            for (int x = 0; x < wide; x++) {
                boolean any = false;
                boolean plain = false;
                for (int b = 0; b < spans.size(); b++) {
                    if ((set >> b & 1) == 1 && spans.get(b).squares.contains(y * 100 + x)) {
                        any = true;
                        plain |= !spans.get(b).hidden;
                    }
                }
                boolean under = next != null && next.has(x, y) && next.through[y][x];
                if (through[y][x] && any && !(!plain && under)) {
                    sum += worth[y][x];
                }
            }
        }
        return sum;
    }

    int choice(boolean twice, Slow next) {
        int best = -1;
        for (int set = 0; set < 1 << spans.size(); set++) {
            boolean good = loose(tin(set)) == 0;
            for (int b = 0; good && twice && b < spans.size(); b++) {
                good = (set >> b & 1) == 0 || loose(tin(set & ~(1 << b))) == 0;
            }
            if (good && (best < 0 || seen(set, next) < seen(best, next)
                    || seen(set, next) == seen(best, next) && Integer.bitCount(set) < Integer.bitCount(best))) {
                best = set;
            }
        }
        return best;
    }

    List<Integer> cutSquares() {
        List<Integer> list = new ArrayList<>();
        for (int y = 0; y < high; y++) {
            for (int x = 0; x < wide; x++) {
                if (through[y][x]) {
                    list.add(y * 100 + x);
                }
            }
        }
        return list;
    }

    /** By trying all sets of squares: only for few of them. */
    int cheapest() {
        List<Integer> list = cutSquares();
        int best = Integer.MAX_VALUE;
        for (int set = 0; set < 1 << list.size(); set++) {
            boolean[][] t = tin(0);
            int sum = 0;
            for (int k = 0; k < list.size(); k++) {
                if ((set >> k & 1) == 1) {
                    t[list.get(k) / 100][list.get(k) % 100] = true;
                    sum += worth[list.get(k) / 100][list.get(k) % 100];
                }
            }
            if (sum < best && loose(t) == 0) {
                best = sum;
            }
        }
        return best;
    }

    int made() {
        List<Integer> list = cutSquares();
        List<TreeSet<Integer>> pieces = pieces(0);
        int best = Integer.MAX_VALUE;
        for (int gone = 0; gone < 1 << pieces.size(); gone++) {
            for (int set = 0; set < 1 << list.size(); set++) {
                boolean[][] t = tin(0);
                int sum = Integer.bitCount(set);
                for (int k = 0; k < list.size(); k++) {
                    t[list.get(k) / 100][list.get(k) % 100] |= (set >> k & 1) == 1;
                }
                for (int p = 0; p < pieces.size(); p++) {
                    if ((gone >> p & 1) == 1) {
                        sum += pieces.get(p).size();
                        for (int q : pieces.get(p)) {
                            t[q / 100][q % 100] = false;
                        }
                    }
                }
                if (sum < best && loose(t) == 0) {
                    best = sum;
                }
            }
        }
        return best;
    }

    int alike(Slow other, int turns, int dx, int dy) {
        boolean[][] mine = tin(in);
        for (int k = 0; k < turns; k++) {
            mine = turnOnce(mine);
        }
        boolean[][] theirs = other.tin(other.in);
        int same = 0;
        for (int y = 0; y < mine.length; y++) {
            for (int x = 0; x < mine[0].length; x++) {
                if (other.has(x + dx, y + dy) && theirs[y + dy][x + dx] == mine[y][x]) {
                    same++;
                }
            }
        }
        return same;
    }

    /** All coverings, tried one after the other in the order in which of equal ones the first is due. */
    final class Cover {
        int cost = Integer.MAX_VALUE;
        long ways = 0;
        List<int[]> best = null;
        final boolean[][] t = tin(in);
        final int y0;

        Cover(int y0) {
            this.y0 = y0;
            from(0, 0, new ArrayList<>());
        }

        boolean open(int x, int y) {
            return y < high && !t[y][x];
        }

        void from(int x, int sum, List<int[]> used) {
            if (x == wide) {
                if (sum < cost) {
                    cost = sum;
                    ways = 0;
                    best = null;
                }
                if (sum == cost) {
                    ways++;
                    if (best == null || used.size() < best.size()) {
                        best = new ArrayList<>(used);
                    }
                }
                return;
            }
            for (int k = 0; k < shapes.size(); k++) {
                boolean[][] s = shapes.get(k);
                if (x + s[0].length <= wide) {
                    int unlike = 0;
                    for (int b = 0; b < s.length; b++) {
                        for (int a = 0; a < s[0].length; a++) {
                            unlike += s[b][a] != open(x + a, y0 + b) ? 1 : 0;
                        }
                    }
                    used.add(new int[] {k, x});
                    from(x + s[0].length, sum + unlike, used);
                    used.remove(used.size() - 1);
                }
            }
            int out = 0;
            for (int b = 0; b < 8; b++) {
                out += open(x, y0 + b) ? 1 : 0;
            }
            from(x + 1, sum + out, used);
        }
    }

    /** The plan, by trying all orders: the greatest first, then the holes. */
    int[] plan() {
        List<TreeSet<Integer>> holes = holes();
        int n = holes.size();
        int[] loose = new int[1 << n];
        for (int set = 0; set < 1 << n; set++) {
            boolean[][] t = new boolean[high][wide];
            for (boolean[] row : t) {
                Arrays.fill(row, true);
            }
            for (int k = 0; k < n; k++) {
                if ((set >> k & 1) == 1) {
                    for (int q : holes.get(k)) {
                        t[q / 100][q % 100] = false;
                    }
                }
            }
            loose[set] = loose(t) + greatest(tongues(t, rims()));
        }
        int[] best = new int[n + 1];
        best[0] = Integer.MAX_VALUE;
        tryOrders(new int[n], 0, 0, 0, loose, best);
        return n == 0 ? new int[] {0} : best;
    }

    private static void tryOrders(int[] order, int place, int set, int most, int[] loose, int[] best) {
        if (place == order.length) {
            if (most < best[0]) {
                best[0] = most;
                System.arraycopy(order, 0, best, 1, order.length);
            }
            return;
        }
        for (int k = 0; k < order.length; k++) {
            if ((set >> k & 1) == 0) {
                order[place] = k;
                int then = set | 1 << k;
                tryOrders(order, place + 1, then, Math.max(most, loose[then]), loose, best);
            }
        }
    }

    /** Worth left of an order of sheets, some of which may be null. */
    static int left(Slow[] sheets, int[] order) {
        int sum = 0;
        for (int k = 0; k < order.length; k++) {
            Slow s = sheets[order[k]];
            if (s == null) {
                continue;
            }
            boolean[][] t = s.tin(s.in);
            for (int y = 0; y < s.high; y++) {
                for (int x = 0; x < s.wide; x++) {
                    boolean painted = false;
                    for (int l = k + 1; l < order.length; l++) {
                        Slow later = sheets[order[l]];
                        painted |= later != null && later.has(x, y) && !later.tin(later.in)[y][x];
                    }
                    if (s.through[y][x] && t[y][x] && !painted) {
                        sum += s.worth[y][x];
                    }
                }
            }
        }
        return sum;
    }

    /** The order with the least left: its left first, then the sheets. */
    static int[] least(Slow[] sheets) {
        List<Integer> told = new ArrayList<>();
        for (int k = 0; k < sheets.length; k++) {
            if (sheets[k] != null) {
                told.add(k);
            }
        }
        int[] best = new int[told.size() + 1];
        best[0] = Integer.MAX_VALUE;
        tryPiles(sheets, told, new ArrayList<>(), best);
        return best;
    }

    private static void tryPiles(Slow[] sheets, List<Integer> told, List<Integer> order, int[] best) {
        if (order.size() == told.size()) {
            int[] so = order.stream().mapToInt(v -> v).toArray();
            int sum = left(sheets, so);
            if (sum < best[0]) {
                best[0] = sum;
                System.arraycopy(so, 0, best, 1, so.length);
            }
            return;
        }
        for (int k : told) {
            if (!order.contains(k)) {
                order.add(k);
                tryPiles(sheets, told, order, best);
                order.remove(order.size() - 1);
            }
        }
    }
}
