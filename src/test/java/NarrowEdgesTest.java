/**
 * Sheets that aren't as wide as high, and the longest ways on the greatest: sentences that hold on small square sheets
 * even if wide and high, or a way's last steps, are mixed up.
 */
public final class NarrowEdgesTest {
    private static final Due DUE = new Due();

    public static void main(String[] args) {
        farCorner();
        secondShape();
        paintAndLeft();
        leftByOneLaterStill();
        leastIsMoreThanNothing();
        bridgesFarDown();
        nextSheetNarrow();
        heldByTwoSides();
        gapsInARow();
        onlyTheFirstRowFalls();
        gapsOfLines();
        tonguesFromOneSquare();
        necksWithABrush();
        sagOfAngles();
        cornersOfNarrow();
        choiceOfLines();
        twiceLeavesOthersOut();
        windingTin();
        windingJoin();
        branchingJoin();
        holesOfLines();
        DUE.end();
    }

    private static String allCut(int wide, int high) {
        StringBuilder text = new StringBuilder("plate " + wide + " " + high + ";");
        for (int y = 0; y < high; y++) {
            text.append("row " + y + " " + "t".repeat(wide) + ";");
        }
        return text.toString();
    }

    /** The rows told as columns. */
    private static String[] upright(String... rows) {
        String[] columns = new String[rows[0].length()];
        for (int k = 0; k < columns.length; k++) {
            StringBuilder column = new StringBuilder();
            for (String row : rows) {
                column.append(row.charAt(k));
            }
            columns[k] = column.toString();
        }
        return columns;
    }

    private static void farCorner() {
        DUE.says("X below WIDE, Y below HIGH (of narrow sheets)");
        int[][] sizes = {{7, 2}, {2, 7}, {20, 1}, {1, 20}};
        for (int[] size : sizes) {
            int a = size[0] - 1;
            int b = size[1] - 1;
            TinStencils x = Due.with("plate " + size[0] + " " + size[1] + ";shape p t;put p " + a + " " + b + ";worth " + a + " " + b + " to " + a
                + " " + b + " 9;bridge told " + a + " " + b + ";");
            DUE.is("through", x.square(0, a, b, 0), 1);
            DUE.is("tin", x.square(0, a, b, 1), 1);
            DUE.is("worth", x.square(0, a, b, 2), 9);
            DUE.is("bridge", x.bridge(0, 0, 2), 1);
            x.put(0, 0, false);
            DUE.is("one isn't tin", x.sheet(0, 9), size[0] * size[1] - 1);
            DUE.is("change", x.change(0, a, b, false), true);
            DUE.is("all is tin", x.sheet(0, 9), size[0] * size[1]);
            DUE.is("change back", x.change(0, a, b, true), true);
            DUE.is("that one", x.square(0, a, b, 1), 0);
            DUE.is("turned aside", x.change(0, b, a, true), false);
        }
    }

    private static void secondShape() {
        DUE.says("\"put\": a shape (by its NAME)");
        TinStencils x = Due.with("plate 5 2;shape a tt;shape b t t;shape c tts;put b 1 0;put c 3 1;");
        String[] want = {".#...", ".#.##"};
        for (int y = 0; y < 2; y++) {
            for (int a = 0; a < 5; a++) {
                DUE.is("through at " + a + " " + y, x.square(0, a, y, 0), want[y].charAt(a) == '#' ? 1 : 0);
            }
        }
    }

    private static void paintAndLeft() {
        DUE.says("the latest that isn't TIN at a square paints it (of narrow sheets)");
        TinStencils x = Due.with("plate 2 5;row 3 st;row 4 t;worth 1 3 to 1 3 7;worth 0 4 to 0 4 30;");
        Due.tell(x, 1, "plate 5 2;row 1 ssst;");
        DUE.is("paint(1, 3)", x.paint(1, 3), 0);
        DUE.is("paint(0, 4)", x.paint(0, 4), 0);
        DUE.is("paint(3, 1)", x.paint(3, 1), 1);
        DUE.is("paint(0, 3)", x.paint(0, 3), -1);
        DUE.is("paint(1, 4)", x.paint(1, 4), -1);
        DUE.is("paint(1, 1)", x.paint(1, 1), -1);
        DUE.is("paint(3, 0)", x.paint(3, 0), -1);
        DUE.says("LEFT: the worth (its own), far down and far right");
        TinStencils down = Due.with("plate 2 5;row 3 st;row 4 t;worth 1 3 to 1 3 7;worth 0 4 to 0 4 30;bridge told 1 3;bridge told 0 4;");
        DUE.is("both", down.left(0), 37);
        down.put(0, 0, false);
        DUE.is("the last row", down.left(0), 30);
        TinStencils right = Due.with("plate 5 2;row 0 sssts;row 1 tssst;worth 3 0 to 3 0 7;worth 4 1 to 4 1 30;bridge told 3 0,4 1;");
        DUE.is("both", right.left(0), 37);
    }

    private static void leftByOneLaterStill() {
        DUE.says("LEFT: not painted by a later one of the ORDER (any later one)");
        TinStencils x = Due.with("plate 1 1;row 0 t;bridge told 0 0;");
        Due.tell(x, 1, "plate 1 1;");
        DUE.is("the next is tin", x.left(0), 1);
        Due.tell(x, 2, "plate 1 1;row 0 t;");
        Due.tell(x, 3, "plate 1 1;");
        DUE.is("one behind the next paints it", x.left(0), 0);
        x.order(120345);
        DUE.is("that one is ahead", x.left(0), 1);
        x.order(103254);
        DUE.is("behind another", x.left(0), 0);
    }

    private static void leastIsMoreThanNothing() {
        DUE.says("LEAST: the least LEFT (where something is left by every order)");
        TinStencils one = Due.with("plate 1 1;row 0 t;worth 0 0 to 0 0 4;bridge told 0 0;");
        DUE.is("of one", one.left(1), 4);
        TinStencils x = new TinStencils();
        Due.tell(x, 2, "plate 2 1;row 0 tt;worth 0 0 to 0 0 5;bridge told 0 0;");
        Due.tell(x, 4, "plate 2 1;row 0 tt;worth 1 0 to 1 0 3;bridge told 1 0;");
        // whichever is later keeps its own: 3, if 4 is the later one
        DUE.is("of two", x.left(1), 3);
        DUE.is("first", x.left(10), 2);
        DUE.is("second", x.left(11), 4);
        x.order(543210);
        DUE.is("by this order", x.left(0), 5);
        DUE.is("the least is the same", x.left(1), 3);
        Due.tell(x, 0, "plate 2 1;row 0 tt;");
        DUE.is("a third paints all", x.left(1), 0);
        int[] want = {2, 4, 0};
        for (int k = 0; k < 3; k++) {
            DUE.is("left(" + (10 + k) + ")", x.left(10 + k), want[k]);
        }
    }

    private static void bridgesFarDown() {
        DUE.says("SEEN by BRIDGES, and those THROUGH by the text (of narrow sheets)");
        TinStencils down = Due.with("plate 2 6;row 4 tt;row 5 st;worth 0 4 to 1 4 3;worth 1 5 to 1 5 40;bridge straight 1 4 south 2;");
        DUE.is("squares", down.bridge(0, 0, 1), 2);
        DUE.is("through", down.bridge(0, 0, 2), 2);
        DUE.is("seen", down.judge(0, 2), 43);
        TinStencils right = Due.with("plate 6 2;row 0 sssstt;row 1 ssssst;worth 4 0 to 4 0 3;worth 5 0 to 5 1 40;bridge straight 5 0 south 2;"
            + "bridge straight 5 0 west 2;");
        DUE.is("through", right.bridge(0, 0, 2), 2);
        DUE.is("through", right.bridge(0, 1, 2), 2);
        DUE.is("seen", right.judge(0, 2), 83);
        TinStencils low = Due.with("plate 3 20;row 19 ttt;bridge straight 0 19 east 3;bridge straight 0 0 south 20;");
        DUE.is("of the lowest row", low.bridge(0, 0, 2), 3);
        DUE.is("its last", low.bridge(0, 1, 2), 1);
    }

    private static void nextSheetNarrow() {
        DUE.says("THROUGH by the text of the next SHEET (if it's there)");
        TinStencils x = Due.with("plate 2 6;row 5 st;bridge told 1 5 hidden;");
        DUE.is("not told", x.judge(0, 2), 1);
        Due.tell(x, 1, "plate 6 2;row 0 tttttt;row 1 tttttt;");
        DUE.is("it has no such row", x.judge(0, 2), 1);
        Due.tell(x, 1, "plate 1 6;row 5 t;");
        DUE.is("it has no such column", x.judge(0, 2), 1);
        Due.tell(x, 1, "plate 2 6;row 5 ts;row 1 tt;");
        DUE.is("it stays there", x.judge(0, 2), 1);
        Due.tell(x, 1, "plate 2 6;row 5 st;");
        DUE.is("it is through there", x.judge(0, 2), 0);
    }

    private static void heldByTwoSides() {
        DUE.says("a side it's held by (one of several)");
        String[] holds = {"north", "east", "south", "west"};
        int[][] on = {{1, 0}, {4, 1}, {1, 2}, {0, 1}};
        for (int one = 0; one < 4; one++) {
            for (int other = 0; other < 4; other++) {
                TinStencils x = Due.with(allCut(5, 3) + "hold " + holds[one] + " " + holds[other] + ";");
                for (int k = 0; k < 4; k++) {
                    x.change(0, on[k][0], on[k][1], false);
                    DUE.is("rim " + k + " of " + holds[one] + " " + holds[other], x.square(0, on[k][0], on[k][1], 3), k == one || k == other ? 1 : 0);
                    x.change(0, on[k][0], on[k][1], true);
                }
            }
        }
        for (int a = 0; a < 20; a++) {
            TinStencils rim = Due.with(allCut(20, 2) + "hold north;");
            rim.change(0, a, 0, false);
            DUE.is("north rim at " + a, rim.square(0, a, 0, 3), 1);
            rim.change(0, a, 0, true);
            rim.change(0, a, 1, false);
            DUE.is("below it at " + a, rim.square(0, a, 1, 3), 0);
        }
        TinStencils low = Due.with("plate 4 9;row 3 tttt;hold south;");
        DUE.is("what is below the cut hangs", low.square(0, 0, 4, 3), 1);
        DUE.is("what is above it doesn't", low.square(0, 3, 2, 3), 0);
        TinStencils wide = Due.with("plate 9 4;row 3 ttttttttt;hold south;");
        DUE.is("nothing hangs by a rim that is cut", wide.square(0, 4, 0, 3), 0);
    }

    private static void gapsInARow() {
        DUE.says("joined by TIN side by side (along the longest row)");
        for (int gap = 0; gap < 20; gap++) {
            String row = "#".repeat(gap) + "." + "#".repeat(19 - gap);
            TinStencils west = Due.with(Due.drawn(row) + "hold west;");
            TinStencils east = Due.with(Due.drawn(row) + "hold east;");
            TinStencils north = Due.with(Due.drawn(upright(row)) + "hold north;");
            TinStencils south = Due.with(Due.drawn(upright(row)) + "hold south;");
            for (int k = 0; k < 20; k++) {
                DUE.is("west, cut at " + gap + ": " + k, west.square(0, k, 0, 3), k < gap ? 1 : 0);
                DUE.is("east, cut at " + gap + ": " + k, east.square(0, k, 0, 3), k > gap ? 1 : 0);
                DUE.is("north, cut at " + gap + ": " + k, north.square(0, 0, k, 3), k < gap ? 1 : 0);
                DUE.is("south, cut at " + gap + ": " + k, south.square(0, 0, k, 3), k > gap ? 1 : 0);
            }
            DUE.is("all that falls", west.falls(0, 0, 0), gap == 19 ? -1 : 19 - gap);
        }
    }

    private static void onlyTheFirstRowFalls() {
        DUE.says("whether all TIN hangs (what 0): the first row, too");
        TinStencils x = Due.with(Due.drawn(".#.", "...", "###") + "hold south;");
        DUE.is("judge", x.judge(0, 0), 0);
        DUE.is("plan", x.cut(0, 0), 1);
        TinStencils bridged = Due.with(Due.drawn("#", ".", "#") + "hold south;bridge told 0 1;");
        DUE.is("with the bridge", bridged.judge(0, 0), 1);
        DUE.is("spoilt", bridged.spoilt(0, 0), 1);
        DUE.is("chosen", bridged.choice(0, false, 0), 1);
        TinStencils corner = Due.with(Due.drawn("#..", "...", "..#") + "hold south;");
        DUE.is("the very first square is a piece", corner.falls(0, 0, 0), 1);
        DUE.is("its x", corner.falls(0, 0, 1), 0);
        DUE.is("its y", corner.falls(0, 0, 2), 0);
    }

    private static void gapsOfLines() {
        DUE.says("GAP of a PIECE (in a line)");
        for (int length = 3; length <= 20; length++) {
            String row = "#" + ".".repeat(length - 2) + "#";
            DUE.is("held at the east", Due.with(Due.drawn(row) + "hold east;").falls(0, 0, 3), length - 2);
            DUE.is("held at the west", Due.with(Due.drawn(row) + "hold west;").falls(0, 0, 3), length - 2);
            DUE.is("held at the south", Due.with(Due.drawn(upright(row)) + "hold south;").falls(0, 0, 3), length - 2);
            DUE.is("held at the north", Due.with(Due.drawn(upright(row)) + "hold north;").falls(0, 0, 3), length - 2);
        }
    }

    private static void tonguesFromOneSquare() {
        DUE.says("its TONGUE: how many (of several arms together)");
        TinStencils x = Due.with(Due.drawn("..#..", "#####", "..#..", "..##.") + "hold north;");
        DUE.is("the crossing", x.square(0, 2, 1, 5), 7);
        DUE.is("the one it hangs by", x.square(0, 2, 0, 5), 8);
        DUE.is("an arm", x.square(0, 1, 1, 5), 1);
        DUE.is("the foot", x.square(0, 2, 2, 5), 2);
    }

    private static void necksWithABrush() {
        DUE.says("How many NECKS (what 0), the greatest TONGUE (1), TONGUES above the brush (2)");
        TinStencils x = Due.with("plate 6 1;hold west;brush 2;");
        DUE.is("necks", x.tongues(0, 0), 5);
        DUE.is("greatest", x.tongues(0, 1), 5);
        DUE.is("above 2", x.tongues(0, 2), 3);
    }

    private static void sagOfAngles() {
        DUE.says("SAG of a TIN square, how many TONGUES are above n (where x isn't y)");
        String[] rows = {"#####", "....#"};
        TinStencils lying = Due.with(Due.drawn(rows));
        TinStencils standing = Due.with(Due.drawn(upright(rows)));
        int[][] want = {{3, 0, 2, 3, 1}, {4, 1, 4, 4, 3}, {0, 0, 4, 4, 3}};
        for (int[] w : want) {
            DUE.is("sag at " + w[0] + " " + w[1], lying.sag(0, w[0], w[1], 0, 0), w[2]);
            DUE.is("above 0", lying.sag(0, w[0], w[1], 0, 1), w[3]);
            DUE.is("above 1", lying.sag(0, w[0], w[1], 1, 1), w[4]);
            DUE.is("upright sag at " + w[1] + " " + w[0], standing.sag(0, w[1], w[0], 0, 0), w[2]);
            DUE.is("above 0", standing.sag(0, w[1], w[0], 0, 1), w[3]);
            DUE.is("above 1", standing.sag(0, w[1], w[0], 1, 1), w[4]);
        }
        DUE.is("not tin", lying.sag(0, 3, 1, 0, 1), -1);
        DUE.is("not there", lying.sag(0, 1, 4, 0, 1), -1);
    }

    private static void cornersOfNarrow() {
        DUE.says("the four corners of a SHEET (of a narrow one)");
        int[][] sizes = {{7, 2}, {2, 7}, {20, 3}, {3, 20}};
        for (int[] size : sizes) {
            int a = size[0] - 1;
            int b = size[1] - 1;
            int[][] at = {{0, 0}, {a, 0}, {a, b}, {0, b}};
            for (int k = 0; k < 4; k++) {
                TinStencils x = Due.with(allCut(size[0], size[1]));
                x.change(0, at[k][0], at[k][1], false);
                DUE.is("only " + k, x.corner(0), k);
            }
        }
        DUE.is("the east end is less", Due.with(Due.drawn("####.#") + "hold west;").corner(0), 1);
        DUE.is("the low end is less", Due.with(Due.drawn(upright("####.#")) + "hold west;").corner(0), 2);
    }

    private static void choiceOfLines() {
        DUE.says("CHOICE, its SEEN (of squares in the first row, of several alike)");
        TinStencils x = Due.with(Due.drawn("#..#") + "hold west;worth 1 0 to 1 0 3;worth 2 0 to 2 0 4;bridge told 1 0,2 0;");
        DUE.is("set", x.choice(0, false, 0), 1);
        DUE.is("seen", x.choice(0, false, 1), 7);
        TinStencils down = Due.with(Due.drawn("#", ".", ".", "#") + "hold north;worth 0 1 to 0 1 3;worth 0 2 to 0 2 4;bridge told 0 1,0 2;");
        DUE.is("seen upright", down.choice(0, false, 1), 7);
        TinStencils two = Due.with(Due.drawn("#......#") + "hold west;worth 1 0 to 6 0 2;worth 6 0 to 6 0 50;bridge straight 1 0 east 3;"
            + "bridge straight 6 0 west 4;bridge straight 4 0 east 2;bridge straight 4 0 east 3;");
        DUE.is("the far columns are seen", two.choice(0, false, 1), 60);
        DUE.is("the fewest, and least bits", two.choice(0, false, 0), 3);
    }

    private static void twiceLeavesOthersOut() {
        DUE.says("TWICE: without any one of them (not with one that isn't among them)");
        TinStencils x = Due.with(Due.drawn("#....", ".....", "#....") + "hold north;bridge told 0 1;bridge told 0 1;bridge told 4 1;");
        DUE.is("the third would fall", x.choice(0, true, 0), 3);
        DUE.is("seen", x.choice(0, true, 1), 1);
        TinStencils ahead = Due.with(Due.drawn("#....", ".....", "#....") + "hold north;bridge told 4 1;bridge told 0 1;bridge told 0 1;");
        DUE.is("the first would fall", ahead.choice(0, true, 0), 6);
    }

    /** A way of tin, or of squares worth nothing, through the whole sheet: along each second row, and down at its end. */
    private static boolean onTheWay(int a, int b) {
        return b < 19 && (b % 2 == 0 || a == (b % 4 == 1 ? 19 : 0));
    }

    private static void windingTin() {
        DUE.says("joined by TIN side by side (by the longest way)");
        String[] rows = new String[20];
        for (int b = 0; b < 20; b++) {
            StringBuilder row = new StringBuilder();
            for (int a = 0; a < 20; a++) {
                row.append(onTheWay(a, b) ? '#' : '.');
            }
            rows[b] = row.toString();
        }
        TinStencils x = Due.with(Due.drawn(rows) + "hold north;");
        DUE.is("tin", x.sheet(0, 9), 209);
        DUE.is("all hangs", x.judge(0, 0), 1);
        DUE.is("necks", x.tongues(0, 0), 189);
        DUE.is("greatest", x.tongues(0, 1), 189);
        DUE.is("its neck", x.square(0, 19, 0, 5), 189);
        DUE.is("the last but one", x.square(0, 1, 18, 5), 1);
        DUE.is("sag at the end", x.sag(0, 0, 18, 0, 0), 207);
        DUE.is("above 0", x.sag(0, 0, 18, 0, 1), 207);
        DUE.is("above 100", x.sag(0, 0, 18, 100, 1), 107);
        TinStencils low = Due.with(Due.drawn(rows) + "hold south;");
        DUE.is("nothing hangs", low.square(0, 0, 18, 3), 0);
        DUE.is("one piece", low.falls(0, -1, 0), 1);
        DUE.is("all of it", low.falls(0, 0, 0), 209);
        DUE.is("one square joins it", low.cheapest(0), 1);
        TinStencils side = Due.with(Due.drawn(upright(rows)) + "hold west;");
        DUE.is("upright, all hangs", side.judge(0, 0), 1);
        DUE.is("upright, greatest", side.tongues(0, 1), 189);
    }

    private static void windingJoin() {
        DUE.says("CHEAPEST: the least worth (by the longest way)");
        StringBuilder text = new StringBuilder(allCut(20, 20) + "hold north;");
        for (int b = 0; b < 20; b++) {
            if (b % 2 == 0 && b < 19) {
                text.append("worth 0 " + b + " to 19 " + b + " 0;");
            } else if (b < 19) {
                int a = b % 4 == 1 ? 19 : 0;
                text.append("worth " + a + " " + b + " to " + a + " " + b + " 0;");
            }
        }
        TinStencils x = Due.with(text.toString());
        x.change(0, 0, 18, false);
        DUE.is("for nothing", x.cheapest(0), 0);
        DUE.is("cut rather", x.made(0), 1);
        x.change(0, 0, 18, true);
        x.change(0, 19, 19, false);
        DUE.is("one square more, then for nothing", x.cheapest(0), 0);
        x.change(0, 10, 7, false);
        DUE.is("two pieces on the way", x.cheapest(0), 0);
        TinStencils away = Due.with(text + "worth 0 19 to 19 19 5;worth 10 18 to 19 18 50;");
        away.change(0, 19, 19, false);
        DUE.is("along the last row to the way", away.cheapest(0), 10 * 5);
    }

    /** A trunk with seven branches: whichever pieces are at their ends, all of it is the cheapest. */
    private static void branchingJoin() {
        DUE.says("CHEAPEST of seven PIECES (in any places)");
        int[] columns = {1, 4, 7, 10, 13, 16, 19};
        int[] steps = {1, 2, 3, 4, 5, 6};
        for (int step : steps) {
            for (int first = 0; first < 7; first++) {
                StringBuilder text = new StringBuilder(allCut(20, 12) + "hold west;worth 0 0 to 19 11 99;worth 0 10 to 19 10 1;");
                int[] tops = new int[7];
                for (int k = 0; k < 7; k++) {
                    tops[k] = 1 + (first + k * step) % 7;
                    text.append("worth " + columns[k] + " " + tops[k] + " to " + columns[k] + " 9 1;");
                }
                TinStencils x = Due.with(text.toString());
                for (int k = 0; k < 7; k++) {
                    x.change(0, columns[k], tops[k], false);
                }
                DUE.is("pieces", x.falls(0, -1, 0), 7);
                DUE.is("trunk and branches", x.cheapest(0), 20 + 8 + 7 + 6 + 5 + 4 + 3 + 2);
                DUE.is("cut rather", x.made(0), 7);
            }
        }
    }

    private static void holesOfLines() {
        DUE.says("HOLES, CUT (of narrow sheets)");
        String row = ".##.#..";
        int[][] want = {{1, 0}, {1, 3}, {2, 5}};
        TinStencils lying = Due.with(Due.drawn(row) + "hold west;");
        TinStencils standing = Due.with(Due.drawn(upright(row)) + "hold north;");
        DUE.is("holes", lying.hole(0, -1, 0), 3);
        DUE.is("holes upright", standing.hole(0, -1, 0), 3);
        for (int k = 0; k < 3; k++) {
            DUE.is("squares", lying.hole(0, k, 0), want[k][0]);
            DUE.is("x", lying.hole(0, k, 1), want[k][1]);
            DUE.is("y", lying.hole(0, k, 2), 0);
            DUE.is("squares upright", standing.hole(0, k, 0), want[k][0]);
            DUE.is("x upright", standing.hole(0, k, 1), 0);
            DUE.is("y upright", standing.hole(0, k, 2), want[k][1]);
        }
        // the last hole first leaves four that hang by a neck; hole 0 then sets these four loose, which is no more
        int[] plan = {2, 0, 1};
        DUE.is("plan", lying.cut(0, 0), 4);
        DUE.is("plan upright", standing.cut(0, 0), 4);
        for (int k = 0; k < 3; k++) {
            DUE.is("cut(0, " + (10 + k) + ")", lying.cut(0, 10 + k), plan[k]);
            DUE.is("upright cut(0, " + (10 + k) + ")", standing.cut(0, 10 + k), plan[k]);
        }
    }
}
