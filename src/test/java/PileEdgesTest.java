/** Each sentence about sheets over one another, read and cut, with a test of its own: promises 20 to 27. */
public final class PileEdgesTest {
    private static final Due DUE = new Due();
    private static final int LOW = Integer.MIN_VALUE;
    private static final int HIGH = Integer.MAX_VALUE;
    private static final long MOST_WAYS = 1000000000000000000L;

    public static void main(String[] args) {
        latestPaints();
        onlyToldPaint();
        paintOfNone();
        leftWorthItsOwn();
        leftLater();
        leastOfSeveral();
        leastOfOneAndSix();
        leftOfNone();
        alikeMoved();
        alikeBothIn();
        alikeTurned();
        alikeOfNone();
        turnOfSeveral();
        turnOfNone();
        readNotPast();
        readBelow();
        readLeftOut();
        readFewest();
        readFirstUnlike();
        readWays();
        readMost();
        readOfNone();
        holes();
        holeOfNone();
        cutWithoutHoles();
        cutEight();
        cutLoose();
        cutFirstByNumbers();
        cutOfNone();
        DUE.end();
    }

    private static void latestPaints() {
        DUE.says("the latest that isn't TIN at a square paints it");
        TinStencils x = new TinStencils();
        for (int s = 0; s < 6; s++) {
            Due.tell(x, s, "plate 1 1;row 0 t;");
        }
        DUE.is("of 012345", x.paint(0, 0), 5);
        for (int digits : new int[] {543210, 123450, 501234, 12354}) {
            x.order(digits);
            DUE.is("of " + digits, x.paint(0, 0), digits % 10);
        }
        x.order(12345);
        for (int s = 5; s > 0; s--) {
            x.change(s, 0, 0, false);
            DUE.is("without " + s, x.paint(0, 0), s - 1);
        }
        DUE.says("NONE: none (paint)");
        x.change(0, 0, 0, false);
        DUE.is("all are tin", x.paint(0, 0), -1);
        Due.tell(x, 3, "plate 1 1;row 0 t;bridge told 0 0;");
        DUE.is("a bridge is tin", x.paint(0, 0), -1);
        x.put(3, 0, false);
        DUE.is("a bridge that's out isn't", x.paint(0, 0), 3);
    }

    private static void onlyToldPaint() {
        DUE.says("of those told (with a text)");
        TinStencils x = new TinStencils();
        DUE.is("none told", x.paint(0, 0), -1);
        Due.tell(x, 2, "plate 1 1;row 0 t;");
        DUE.is("the only one", x.paint(0, 0), 2);
        x.order(201345);
        DUE.is("those behind it aren't told", x.paint(0, 0), 2);
    }

    private static void paintOfNone() {
        DUE.says("a square (0 to 19). NONE: none such (paint)");
        TinStencils x = Due.with("plate 20 20;row 0 " + "t".repeat(20) + ";row 19 " + "t".repeat(20) + ";");
        int[][] corners = {{0, 0}, {19, 0}, {0, 19}, {19, 19}};
        for (int[] c : corners) {
            DUE.is("paint(" + c[0] + ", " + c[1] + ")", x.paint(c[0], c[1]), 0);
        }
        int[][] none = {{-1, 0}, {20, 0}, {0, -1}, {0, 20}, {32, 0}, {LOW, 0}, {HIGH, 0}, {0, LOW}, {0, HIGH}, {-1, -1}, {20, 20}};
        for (int[] n : none) {
            DUE.is("paint(" + n[0] + ", " + n[1] + ")", x.paint(n[0], n[1]), -1);
        }
    }

    private static void leftWorthItsOwn() {
        DUE.says("LEFT: the worth (its own) of squares THROUGH by its text, TIN");
        TinStencils x = Due.with("plate 3 1;row 0 tts;worth 0 0 to 2 0 5;bridge told 0 0,2 0;");
        DUE.is("bridged and through", x.left(0), 5);
        Due.tell(x, 1, "plate 3 1;row 0 sts;worth 0 0 to 2 0 70;bridge told 1 0;");
        DUE.is("each its own", x.left(0), 75);
        x.put(1, 0, false);
        DUE.is("out", x.left(0), 5);
        x.change(0, 0, 0, false);
        DUE.is("it stays", x.left(0), 0);
    }

    private static void leftLater() {
        DUE.says("not painted by a later one of the ORDER (not TIN there)");
        TinStencils x = Due.with("plate 2 1;row 0 tt;bridge straight 0 0 east 2;");
        Due.tell(x, 1, "plate 2 1;row 0 ts;");
        DUE.is("painted by a later one", x.left(0), 1);
        x.order(102345);
        DUE.is("painted by one ahead", x.left(0), 2);
        x.order(501234);
        DUE.is("not the next, but later", x.left(0), 1);
        x.order(234510);
        DUE.is("0 is the last", x.left(0), 2);
        TinStencils last = new TinStencils();
        Due.tell(last, 5, "plate 1 1;row 0 t;bridge told 0 0;");
        DUE.is("the last of the ORDER is left, too", last.left(0), 1);
        Due.tell(last, 0, "plate 1 1;row 0 t;");
        DUE.is("0 is ahead of it", last.left(0), 1);
        last.order(543210);
        DUE.is("painted by the last of the ORDER", last.left(0), 0);
        last.order(501234);
        DUE.is("painted by 0", last.left(0), 0);
        DUE.is("itself never", Due.with("plate 1 1;row 0 t;bridge told 0 0;").left(0), 1);
    }

    private static void leastOfSeveral() {
        DUE.says("LEAST: of all orders of told SHEETS the one with the least LEFT (of several the first by numbers)");
        TinStencils x = new TinStencils();
        Due.tell(x, 1, "plate 1 1;");
        Due.tell(x, 3, "plate 1 1;");
        Due.tell(x, 4, "plate 1 1;");
        x.order(543210);
        int[] want = {1, 3, 4, -1, -1, -1, -1};
        for (int k = 0; k < want.length; k++) {
            DUE.is("left(" + (10 + k) + ")", x.left(10 + k), want[k]);
        }
        DUE.is("left(1)", x.left(1), 0);
        TinStencils forced = new TinStencils();
        Due.tell(forced, 1, "plate 1 1;row 0 t;");
        Due.tell(forced, 3, "plate 1 1;");
        Due.tell(forced, 4, "plate 1 1;row 0 t;worth 0 0 to 0 0 9;bridge told 0 0;");
        DUE.is("by the order", forced.left(0), 9);
        DUE.is("least", forced.left(1), 0);
        int[] order = {3, 4, 1};
        for (int k = 0; k < 3; k++) {
            DUE.is("left(" + (10 + k) + ")", forced.left(10 + k), order[k]);
        }
    }

    private static void leastOfOneAndSix() {
        DUE.says("10 + k the k-th SHEET of the order of LEAST");
        TinStencils one = new TinStencils();
        Due.tell(one, 5, "plate 1 1;");
        DUE.is("left(9)", one.left(9), -1);
        DUE.is("left(10)", one.left(10), 5);
        DUE.is("left(11)", one.left(11), -1);
        TinStencils six = new TinStencils();
        for (int s = 0; s < 6; s++) {
            Due.tell(six, s, "plate 1 1;");
        }
        for (int k = 0; k < 6; k++) {
            DUE.is("left(" + (10 + k) + ")", six.left(10 + k), k);
        }
        DUE.is("left(16)", six.left(16), -1);
        DUE.is("asking tells nothing", six.count(3), 12345);
    }

    private static void leftOfNone() {
        DUE.says("NONE: none such, no SHEET is told (left)");
        TinStencils x = Due.with("plate 1 1;");
        for (int what : new int[] {-1, 2, 3, 9, 11, 15, 16, 17, 26, LOW, HIGH}) {
            DUE.is("left(" + what + ")", x.left(what), -1);
        }
        TinStencils none = new TinStencils();
        for (int what : new int[] {0, 1, 10, 15}) {
            DUE.is("none told: left(" + what + ")", none.left(what), -1);
        }
        x.image();
        Due.tell(none, 0, "plate 1 1");
        DUE.is("a fault tells none", none.left(0), -1);
    }

    private static void alikeMoved() {
        DUE.says("moved by dx, dy (-9 to 9)");
        TinStencils x = Due.with("plate 20 20;");
        for (int move : new int[] {-9, -1, 0, 1, 9}) {
            DUE.is("dx " + move, x.alike(0, 0, 0, move, 0), (20 - Math.abs(move)) * 20);
            DUE.is("dy " + move, x.alike(0, 0, 0, 0, move), (20 - Math.abs(move)) * 20);
        }
        for (int move : new int[] {-10, 10, LOW, HIGH}) {
            DUE.is("dx " + move, x.alike(0, 0, 0, move, 0), -1);
            DUE.is("dy " + move, x.alike(0, 0, 0, 0, move), -1);
        }
        TinStencils point = Due.with(Due.drawn("#...", "....", "...."));
        Due.tell(point, 1, Due.drawn("....", "..#.", "...."));
        DUE.is("to the right and down", point.alike(0, 1, 0, 2, 1), 4);
        DUE.is("the other way", point.alike(1, 0, 0, -2, -1), 4);
        Due.tell(point, 2, "plate 1 2;");
        DUE.is("to the right, past it", point.alike(2, 0, 0, 1, 0), 0);
        DUE.is("to the left, past it", point.alike(2, 0, 0, -1, 0), 0);
        DUE.is("to the right, onto it", point.alike(2, 1, 0, 2, 0), 1);
        DUE.is("to the left, off it", point.alike(2, 1, 0, -2, 0), 0);
        DUE.is("down, onto it", point.alike(2, 1, 0, 2, 1), 1);
        DUE.is("up, off it", point.alike(2, 1, 0, 2, -1), 0);
    }

    private static void alikeBothIn() {
        DUE.says("how many squares both are in are both TIN or both not");
        TinStencils x = Due.with(Due.drawn("#.", ".#"));
        Due.tell(x, 1, Due.drawn("##.", "###", "..."));
        DUE.is("the smaller", x.alike(0, 1, 0, 0, 0), 2);
        DUE.is("the greater", x.alike(1, 0, 0, 0, 0), 2);
        DUE.is("one square", x.alike(0, 1, 0, 2, 2), 0);
        DUE.is("one square, both not", x.alike(0, 1, 0, -1, 2), 1);
        DUE.is("none", x.alike(0, 1, 0, 3, 0), 0);
        DUE.is("none above", x.alike(0, 1, 0, 0, -2), 0);
        TinStencils bridged = Due.with("plate 1 1;row 0 t;bridge told 0 0;");
        Due.tell(bridged, 1, "plate 1 1;row 0 t;");
        DUE.is("tin by a bridge", bridged.alike(0, 1, 0, 0, 0), 0);
        bridged.put(0, 0, false);
        DUE.is("out", bridged.alike(0, 1, 0, 0, 0), 1);
    }

    private static void alikeTurned() {
        DUE.says("turned by quarters to the right (as shapes are)");
        TinStencils x = Due.with(Due.drawn("#..", "..."));
        String[][] turned = {{"#..", "..."}, {".#", "..", ".."}, {"...", "..#"}, {"..", "..", "#."}};
        for (int k = 0; k < 4; k++) {
            Due.tell(x, 1, Due.drawn(turned[k]));
            DUE.is("turned " + k, x.alike(0, 1, k, 0, 0), 6);
            DUE.is("turned by two more", x.alike(0, 1, (k + 2) % 4, 0, 0), 4);
            DUE.is("turn(0, 1)", x.turn(0, 1), k);
        }
    }

    private static void alikeOfNone() {
        DUE.says("NONE: none such (alike)");
        TinStencils x = Due.with("plate 1 1;");
        int[][] none = {{1, 0, 0}, {0, 1, 0}, {-1, 0, 0}, {0, -1, 0}, {6, 0, 0}, {0, 6, 0}, {0, 0, -1}, {0, 0, 4}, {LOW, 0, 0}, {0, HIGH, 0},
            {0, 0, LOW}, {0, 0, HIGH}};
        for (int[] n : none) {
            DUE.is("alike(" + n[0] + ", " + n[1] + ", " + n[2] + ", 0, 0)", x.alike(n[0], n[1], n[2], 0, 0), -1);
        }
        DUE.is("a sheet and itself", x.alike(0, 0, 3, 0, 0), 1);
    }

    private static void turnOfSeveral() {
        DUE.says("TURN: that of 0 to 3 with the most (of several the least)");
        TinStencils x = Due.with("plate 4 4;");
        DUE.is("all alike", x.turn(0, 0), 0);
        Due.tell(x, 1, "plate 4 4;" + "row 0 tttt;row 1 tttt;row 2 tttt;row 3 tttt;");
        DUE.is("none alike", x.turn(0, 1), 0);
        Due.tell(x, 2, "plate 1 4;");
        Due.tell(x, 3, "plate 4 1;");
        DUE.is("1 and 3 alike", x.turn(2, 3), 1);
        DUE.is("1 and 3 alike back", x.turn(3, 2), 1);
    }

    private static void turnOfNone() {
        DUE.says("NONE: none such (turn)");
        TinStencils x = Due.with("plate 1 1;");
        for (int s : new int[] {-1, 1, 6, LOW, HIGH}) {
            DUE.is("turn(0, " + s + ")", x.turn(0, s), -1);
            DUE.is("turn(" + s + ", 0)", x.turn(s, 0), -1);
        }
    }

    private static void read(TinStencils x, int y, long... want) {
        DUE.is("cost at " + y, x.read(0, y, 0), want[0]);
        DUE.is("ways at " + y, x.read(0, y, 2), want[1]);
        int number = (want.length - 2) / 2;
        DUE.is("shapes at " + y, x.read(0, y, 1), number);
        for (int k = 0; k < number; k++) {
            DUE.is("shape " + k, x.read(0, y, 10 + k), want[2 + 2 * k]);
            DUE.is("column " + k, x.read(0, y, 40 + k), want[3 + 2 * k]);
        }
        DUE.is("no more shapes", x.read(0, y, 10 + number), -1);
        DUE.is("no more columns", x.read(0, y, 40 + number), -1);
    }

    private static void readNotPast() {
        DUE.says("covered by SHAPES (not over one another, not past the sheet), or left out");
        read(Due.with("plate 3 1;shape a tt;row 0 stt;"), 0, 0, 1, 0, 1);
        read(Due.with("plate 3 1;shape a tt;row 0 sst;"), 0, 1, 2);
        read(Due.with("plate 2 1;shape a ttt;row 0 tt;"), 0, 2, 1);
        read(Due.with("plate 3 1;shape a ttt;row 0 ttt;"), 0, 0, 1, 0, 0);
        read(Due.with("plate 3 1;shape a tt;row 0 ttt;"), 0, 1, 2, 0, 0);
        read(Due.with("plate 4 1;shape a tt;row 0 tttt;"), 0, 0, 1, 0, 0, 0, 2);
        read(Due.with("plate 20 1;shape a st;row 0 " + "st".repeat(10) + ";"), 0,
            0, 1, 0, 0, 0, 2, 0, 4, 0, 6, 0, 8, 0, 10, 0, 12, 0, 14, 0, 16, 0, 18);
    }

    private static void readBelow() {
        DUE.says("t and not TIN are alike; below the sheet STAY");
        read(Due.with("plate 1 1;shape a t s s s s s s s;row 0 t;"), 0, 0, 1, 0, 0);
        read(Due.with("plate 1 1;shape a t s s s s s s t;row 0 t;"), 0, 1, 2);
        read(Due.with("plate 1 2;shape a t t;row 0 t;row 1 t;"), 0, 0, 1, 0, 0);
        read(Due.with("plate 1 2;shape a t t;row 0 t;row 1 t;"), 1, 1, 2);
        read(Due.with("plate 1 5;shape a t t t s s;row 0 t;row 1 t;row 2 t;row 3 t;row 4 t;"), 0, 2, 1, 0, 0);
        read(Due.with("plate 1 5;shape a s s t t t;row 0 t;row 1 t;row 2 t;row 3 t;row 4 t;"), 0, 2, 1, 0, 0);
        TinStencils low = Due.with("plate 1 20;shape a t t;row 18 t;row 19 t;");
        read(low, 18, 0, 1, 0, 0);
        read(low, 19, 1, 2);
        TinStencils bridged = Due.with("plate 1 1;shape a t;row 0 t;bridge told 0 0;");
        read(bridged, 0, 0, 1);
        bridged.put(0, 0, false);
        read(bridged, 0, 0, 1, 0, 0);
    }

    private static void readLeftOut() {
        DUE.says("of a column left out how many squares from Y to Y and 7 aren't TIN");
        StringBuilder text = new StringBuilder("plate 1 10;");
        for (int y = 0; y < 10; y++) {
            text.append("row " + y + " t;");
        }
        TinStencils x = Due.with(text.toString());
        int[] want = {8, 8, 8, 7, 6, 5, 4, 3, 2, 1};
        for (int y = 0; y < 10; y++) {
            read(x, y, want[y], 1);
        }
        TinStencils seventh = Due.with("plate 1 20;row 7 t;row 8 t;");
        read(seventh, 0, 1, 1);
        read(seventh, 1, 2, 1);
        read(seventh, 8, 1, 1);
        read(seventh, 9, 0, 1);
        // a shape's column costs its own squares alone
        read(Due.with("plate 1 3;shape a t;row 0 t;row 1 t;row 2 t;"), 0, 0, 1, 0, 0);
    }

    private static void readFewest() {
        DUE.says("The least; of several the fewest SHAPES");
        read(Due.with("plate 2 1;shape a t;shape b tt;row 0 tt;"), 0, 0, 2, 1, 0);
        read(Due.with("plate 2 1;shape a s;shape b ss;"), 0, 0, 5);
        read(Due.with("plate 4 1;shape a t;shape b tt;shape c ttt;row 0 tttt;"), 0, 0, 7, 0, 0, 2, 1);
    }

    private static void readFirstUnlike() {
        DUE.says("by the first column at which they are unlike: a SHAPE ahead of none, the lesser number first");
        read(Due.with("plate 2 1;shape a t;shape b st;row 0 st;"), 0, 0, 2, 1, 0);
        read(Due.with("plate 2 1;shape b st;shape a t;row 0 st;"), 0, 0, 2, 0, 0);
        read(Due.with("plate 3 1;shape a ts;shape b st;row 0 sts;"), 0, 0, 2, 1, 0);
        read(Due.with("plate 2 1;shape a t;shape b t;row 0 tt;"), 0, 0, 4, 0, 0, 0, 1);
        read(Due.with("plate 3 1;shape a tt;shape b t;row 0 ttt;"), 0, 0, 3, 0, 0, 1, 2);
        read(Due.with("plate 3 1;shape b t;shape a tt;row 0 ttt;"), 0, 0, 3, 0, 0, 1, 1);
    }

    private static void readWays() {
        DUE.says("WAYS: how many coverings have that COST (10^18 at most)");
        StringBuilder text = new StringBuilder();
        for (char c = 'a'; c < 'i'; c++) {
            text.append("shape " + c + " s;");
        }
        long nines = 1;
        for (int wide = 1; wide <= 20; wide++) {
            nines = nines > MOST_WAYS / 9 ? MOST_WAYS : nines * 9;
            read(Due.with("plate " + wide + " 1;" + text), 0, 0, nines);
        }
        TinStencils late = Due.with("plate 20 1;row 0 t;" + text);
        read(late, 0, 1, MOST_WAYS);
        TinStencils less = Due.with("plate 19 1;row 0 t;shape i t;" + text.substring("shape a s;".length()));
        // seven shapes or none at each of 18 columns: 8^18
        read(less, 0, 0, 1L << 54, 0, 0);
    }

    private static void readMost() {
        DUE.says("10 + k the k-th SHAPE, 40 + k its column (as many as there can be)");
        TinStencils x = Due.with("plate 20 1;shape a t;row 0 " + "t".repeat(20) + ";");
        DUE.is("shapes", x.read(0, 0, 1), 20);
        for (int k = 0; k < 20; k++) {
            DUE.is("shape " + k, x.read(0, 0, 10 + k), 0);
            DUE.is("column " + k, x.read(0, 0, 40 + k), k);
        }
        for (int what : new int[] {30, 39, 60}) {
            DUE.is("read(0, 0, " + what + ")", x.read(0, 0, what), -1);
        }
        StringBuilder text = new StringBuilder("plate 20 20;");
        for (int y = 0; y < 20; y++) {
            text.append("row " + y + " " + "t".repeat(20) + ";");
        }
        TinStencils cut = Due.with(text.toString());
        DUE.is("the most that a reading costs", cut.read(0, 0, 0), 160);
        DUE.is("at 12", cut.read(0, 12, 0), 160);
        DUE.is("at 13", cut.read(0, 13, 0), 140);
    }

    private static void readOfNone() {
        DUE.says("NONE: none such (read)");
        TinStencils x = Due.with("plate 2 3;shape a t;row 0 t;");
        for (int y : new int[] {-1, 3, 20, LOW, HIGH}) {
            for (int what : new int[] {0, 1, 2, 10, 40}) {
                DUE.is("read(0, " + y + ", " + what + ")", x.read(0, y, what), -1);
            }
        }
        DUE.is("the last row", x.read(0, 2, 0), 0);
        for (int what : new int[] {-1, 3, 9, 11, 39, 41, LOW, HIGH}) {
            DUE.is("read(0, 0, " + what + ")", x.read(0, 0, what), -1);
        }
        for (int s : new int[] {-1, 1, 6, LOW, HIGH}) {
            DUE.is("read(" + s + ", 0, 0)", x.read(s, 0, 0), -1);
        }
    }

    private static void holes() {
        DUE.says("HOLES: squares that aren't TIN joined side by side, by their first squares");
        TinStencils x = Due.with(Due.drawn("#.#.", "..#.", "#.##", ".###") + "bridge told 1 1;");
        int[][] want = {{1, 1, 0}, {2, 3, 0}, {1, 0, 1}, {1, 1, 2}, {1, 0, 3}};
        DUE.is("holes", x.hole(0, -1, 0), want.length);
        for (int k = 0; k < want.length; k++) {
            for (int what = 0; what < 3; what++) {
                DUE.is("hole(0, " + k + ", " + what + ")", x.hole(0, k, what), want[k][what]);
            }
        }
        x.put(0, 0, false);
        DUE.is("joined where the bridge was", x.hole(0, -1, 0), 3);
        DUE.is("its squares", x.hole(0, 0, 0), 4);
        DUE.is("none", Due.with("plate 20 20;").hole(0, -1, 0), 0);
        TinStencils late = Due.with(Due.drawn("##.", "..."));
        DUE.is("its first by y, not by x", late.hole(0, 0, 1), 2);
        DUE.is("one hole", late.hole(0, -1, 0), 1);
    }

    private static void holeOfNone() {
        DUE.says("NONE: none such (hole)");
        TinStencils x = Due.with("plate 1 1;row 0 t;");
        int[][] none = {{0, -1, 1}, {0, -1, 2}, {0, -1, -1}, {0, -2, 0}, {0, 1, 0}, {0, 0, 3}, {0, 0, -1}, {0, LOW, 0}, {0, HIGH, 0}, {0, 0, LOW},
            {0, 0, HIGH}, {1, -1, 0}, {-1, -1, 0}, {6, -1, 0}, {LOW, 0, 0}, {HIGH, 0, 0}};
        for (int[] n : none) {
            DUE.is("hole(" + n[0] + ", " + n[1] + ", " + n[2] + ")", x.hole(n[0], n[1], n[2]), -1);
        }
        DUE.is("without any", Due.with("plate 1 1;").hole(0, 0, 0), -1);
    }

    private static void cutWithoutHoles() {
        DUE.says("LOOSE at its greatest (what 0; 0 without HOLES)");
        TinStencils x = Due.with("plate 5 1;hold west;");
        DUE.is("a neck is there", x.tongues(0, 1), 4);
        DUE.is("but nothing is cut", x.cut(0, 0), 0);
        DUE.is("no hole", x.cut(0, 10), -1);
    }

    private static void cutEight() {
        DUE.says("PLAN (at most 8 HOLES). NONE: more than 8 HOLES.");
        for (int n = 1; n <= 9; n++) {
            TinStencils x = Due.with("plate 20 3;row 1 s" + "ts".repeat(n) + ";");
            DUE.is("holes", x.hole(0, -1, 0), n);
            DUE.is("plan of " + n, x.cut(0, 0), n > 8 ? -1 : 0);
            for (int k = 0; k <= n; k++) {
                DUE.is("hole " + k + " of " + n, x.cut(0, 10 + k), n > 8 || k == n ? -1 : k);
            }
        }
    }

    private static void cutLoose() {
        DUE.says("LOOSE: how many squares of TIN don't hang, and the greatest TONGUE of a NECK");
        DUE.is("one falls", Due.with(Due.drawn("...", ".#.", "...")).cut(0, 0), 1);
        TinStencils both = Due.with(Due.drawn("#.#", "#..", "#..") + "hold north;");
        DUE.is("a tongue of two", both.cut(0, 0), 2);
        both.change(0, 2, 2, false);
        DUE.is("a tongue of two, and one that falls", both.cut(0, 0), 3);
        DUE.says("(behind each cut)");
        TinStencils before = Due.with("plate 20 1;hold west;row 0 st;");
        DUE.is("what hung by a neck ahead of the cut is nothing to it", before.cut(0, 0), 18);
        TinStencils last = Due.with(Due.drawn("#.#..") + "hold west;");
        DUE.is("the last cut counts, too", last.cut(0, 0), 2);
    }

    private static void cutFirstByNumbers() {
        DUE.says("of several the first by numbers");
        TinStencils free = Due.with("plate 9 3;row 1 stststst;");
        for (int k = 0; k < 4; k++) {
            DUE.is("cut(0, " + (10 + k) + ")", free.cut(0, 10 + k), k);
        }
        TinStencils far = Due.with(Due.drawn("#.#..#..") + "hold west;");
        // hole 0 first sets six loose; 1 and 2 first bring five each, of which 1 is the lesser, and then 0 may follow
        int[] want = {1, 0, 2};
        DUE.is("greatest", far.cut(0, 0), 5);
        for (int k = 0; k < 3; k++) {
            DUE.is("cut(0, " + (10 + k) + ")", far.cut(0, 10 + k), want[k]);
        }
    }

    private static void cutOfNone() {
        DUE.says("NONE: none such (cut)");
        TinStencils x = Due.with("plate 3 3;row 1 st;");
        for (int what : new int[] {-1, 1, 9, 11, 18, LOW, HIGH}) {
            DUE.is("cut(0, " + what + ")", x.cut(0, what), -1);
        }
        for (int s : new int[] {-1, 1, 6, LOW, HIGH}) {
            DUE.is("cut(" + s + ", 0)", x.cut(s, 0), -1);
        }
    }
}
