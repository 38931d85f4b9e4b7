/** Promises 6 to 9, 16 and 17: squares, pieces and gaps, tongues, changes; what sags. */
public final class HangTest {
    private static final Due DUE = new Due();

    public static void main(String[] args) {
        squares();
        holding();
        pieces();
        gaps();
        necks();
        changes();
        sagging();
        corners();
        spirals();
        farGap();
        DUE.end();
    }

    private static void squares() {
        TinStencils x = Due.with(Due.drawn("###", "#.#", "###") + "bridge told 1 1;");
        DUE.is("through", x.square(0, 1, 1, 0), 1);
        DUE.is("tin by a bridge", x.square(0, 1, 1, 1), 1);
        DUE.is("put out", x.put(0, 0, false), true);
        DUE.is("no tin", x.square(0, 1, 1, 1), 0);
        DUE.is("what isn't tin doesn't hang", x.square(0, 1, 1, 3), 0);
        DUE.is("nor is it of a piece", x.square(0, 1, 1, 4), -1);
        DUE.is("nor a neck", x.square(0, 1, 1, 5), 0);
        int[][] none = {{0, -1, 0, 0}, {0, 3, 0, 0}, {0, 0, -1, 0}, {0, 0, 3, 0}, {0, 0, 0, -1}, {0, 0, 0, 6}, {1, 0, 0, 0},
            {-1, 0, 0, 0}, {6, 0, 0, 0}, {0, Integer.MAX_VALUE, 0, 0}, {0, Integer.MIN_VALUE, 0, 0}};
        for (int[] n : none) {
            DUE.is("square of none", x.square(n[0], n[1], n[2], n[3]), -1);
        }
    }

    private static void holding() {
        String ring = Due.drawn("#.#", "...", "#.#");
        String[] sides = {"north", "east", "south", "west"};
        int[][] hang = {{1, 1, 0, 0}, {0, 1, 0, 1}, {0, 0, 1, 1}, {1, 0, 1, 0}};
        for (int k = 0; k < 4; k++) {
            TinStencils x = Due.with(ring + "hold " + sides[k] + ";");
            DUE.is("held", x.sheet(0, 6), 1 << k);
            for (int c = 0; c < 4; c++) {
                DUE.is(sides[k] + " corner " + c, x.square(0, c % 2 * 2, c / 2 * 2, 3), hang[k][c]);
            }
        }
        TinStencils slanting = Due.with(Due.drawn("#.", ".#") + "hold north;");
        DUE.is("aslant is not joined", slanting.square(0, 1, 1, 3), 0);
    }

    private static void pieces() {
        TinStencils x = Due.with(Due.drawn("......", ".#..#.", ".##.#.", "......"));
        DUE.is("pieces", x.falls(0, -1, 0), 2);
        int[][] want = {{3, 1, 1, 1}, {2, 4, 1, 1}};
        for (int k = 0; k < 2; k++) {
            for (int what = 0; what < 4; what++) {
                DUE.is("falls(0, " + k + ", " + what + ")", x.falls(0, k, what), want[k][what]);
            }
        }
        DUE.is("square of piece 1", x.square(0, 4, 2, 4), 1);
        DUE.is("square of piece 0", x.square(0, 2, 2, 4), 0);
        int[][] none = {{0, -1, 1}, {0, -1, 3}, {0, -2, 0}, {0, 2, 0}, {0, 2, 3}, {0, 0, 4}, {0, 0, -1}, {1, -1, 0}, {6, 0, 0}, {-1, 0, 0}};
        for (int[] n : none) {
            DUE.is("falls of none", x.falls(n[0], n[1], n[2]), -1);
        }
    }

    private static void gaps() {
        DUE.is("alone", Due.with(Due.drawn("...", ".#.", "...")).falls(0, 0, 3), -1);
        TinStencils far = Due.with(Due.drawn(".......", ".#.....", "......."
            , ".......", "....##.", "......."));
        DUE.is("around the corner", far.falls(0, 0, 3), 5);
        DUE.is("back again", far.falls(0, 1, 3), 5);
        TinStencils rim = Due.with(Due.drawn("....", ".#.#", "...."));
        DUE.is("to what hangs", rim.falls(0, 0, 3), 1);
        DUE.is("one piece", rim.falls(0, -1, 0), 1);
        TinStencils bridged = Due.with(Due.drawn("#....", "..#..", ".....") + "hold west;bridge told 1 2;");
        DUE.is("to a bridge's tin", bridged.falls(0, 0, 3), 1);
        DUE.is("put", bridged.put(0, 0, false), true);
        DUE.is("without it", bridged.falls(0, 0, 3), 2);
    }

    private static void necks() {
        TinStencils x = Due.with(Due.drawn("#####", ".....") + "hold west;brush 2;");
        for (int k = 0; k < 5; k++) {
            DUE.is("tongue " + k, x.square(0, k, 0, 5), 4 - k);
        }
        DUE.is("necks", x.tongues(0, 0), 4);
        DUE.is("greatest", x.tongues(0, 1), 4);
        DUE.is("above the brush", x.tongues(0, 2), 2);
        DUE.is("tongues(0, 3)", x.tongues(0, 3), -1);
        DUE.is("tongues(0, -1)", x.tongues(0, -1), -1);
        DUE.is("tongues(1, 0)", x.tongues(1, 0), -1);
        TinStencils both = Due.with(Due.drawn("#####") + "hold west east;");
        DUE.is("held at both ends", both.tongues(0, 0), 0);
        DUE.is("greatest of none", both.tongues(0, 1), 0);
        TinStencils fork = Due.with(Due.drawn("..#..", "#####", "#...#", "#...#") + "hold north;");
        DUE.is("two branches", fork.square(0, 2, 0, 5), 9);
        DUE.is("the fork", fork.square(0, 2, 1, 5), 8);
        TinStencils fallen = Due.with(Due.drawn(".....", ".###.", ".....") );
        DUE.is("what falls has no necks", fallen.tongues(0, 0), 0);
    }

    private static void changes() {
        TinStencils x = Due.with("plate 3 3;bridge told 1 1;");
        DUE.is("through", x.change(0, 1, 1, true), true);
        DUE.is("through again", x.change(0, 1, 1, true), true);
        DUE.is("by the text", x.square(0, 1, 1, 0), 1);
        DUE.is("of the bridge", x.bridge(0, 0, 2), 1);
        DUE.is("still tin", x.square(0, 1, 1, 1), 1);
        DUE.is("stays", x.change(0, 1, 1, false), true);
        DUE.is("by the text", x.square(0, 1, 1, 0), 0);
        int before = x.count(10);
        DUE.is("change(0, 3, 0)", x.change(0, 3, 0, true), false);
        DUE.is("change(0, 0, 3)", x.change(0, 0, 3, true), false);
        DUE.is("change(0, -1, 0)", x.change(0, -1, 0, true), false);
        DUE.is("change(0, 0, -1)", x.change(0, 0, -1, true), false);
        DUE.is("change(1, 0, 0)", x.change(1, 0, 0, true), false);
        DUE.is("change(-1, 0, 0)", x.change(-1, 0, 0, true), false);
        DUE.is("change(6, 0, 0)", x.change(6, 0, 0, true), false);
        DUE.is("refused", x.count(10), before + 7);
        DUE.is("tin", x.sheet(0, 9), 9);
    }

    private static void sagging() {
        TinStencils x = Due.with(Due.drawn("#####", ".....", ".##..") + "hold north;");
        DUE.is("sag at the end", x.sag(0, 0, 0, 0, 0), 3);
        DUE.is("sag in the middle", x.sag(0, 2, 0, 0, 0), 1);
        DUE.is("above 0", x.sag(0, 0, 0, 0, 1), 3);
        DUE.is("above 1", x.sag(0, 0, 0, 1, 1), 2);
        DUE.is("above 3", x.sag(0, 0, 0, 3, 1), 0);
        DUE.is("above -1", x.sag(0, 0, 0, -1, 1), 3);
        DUE.is("above the least", x.sag(0, 0, 0, Integer.MIN_VALUE, 1), 3);
        DUE.is("what falls can be held", x.sag(0, 1, 2, 0, 0), 0);
        DUE.is("no tin", x.sag(0, 0, 1, 0, 0), -1);
        DUE.is("sag(0, 0, 0, 0, 2)", x.sag(0, 0, 0, 0, 2), -1);
        DUE.is("sag(0, 0, 0, 0, -1)", x.sag(0, 0, 0, 0, -1), -1);
        DUE.is("sag(0, 5, 0, 0, 0)", x.sag(0, 5, 0, 0, 0), -1);
        DUE.is("sag(0, 0, -1, 0, 0)", x.sag(0, 0, -1, 0, 0), -1);
        DUE.is("sag(1, 0, 0, 0, 0)", x.sag(1, 0, 0, 0, 0), -1);
    }

    private static void corners() {
        DUE.is("all alike", Due.with("plate 4 4;").corner(0), 0);
        DUE.is("one square", Due.with("plate 1 1;").corner(0), 0);
        DUE.is("no tin", Due.with("plate 1 1;row 0 t;").corner(0), -1);
        DUE.is("only lower right", Due.with(Due.drawn(".#.", "###", ".##")).corner(0), 2);
        DUE.is("only lower left", Due.with(Due.drawn(".#.", "###", "##.")).corner(0), 3);
        DUE.is("upper right is less", Due.with(Due.drawn("###.#", ".....")).corner(0), 1);
        DUE.is("none told", new TinStencils().corner(0), -1);
        DUE.is("no such", new TinStencils().corner(-1), -1);
    }

    /** The longest way that tin can hang by: a strip of one square that winds inwards, from each corner. */
    private static void spirals() {
        for (int turns = 0; turns < 4; turns++) {
            for (int mirrored = 0; mirrored < 2; mirrored++) {
                boolean[][] tin = spiral();
                for (int k = 0; k < turns; k++) {
                    tin = Slow.turnOnce(tin);
                }
                String[] sides = {"north", "east", "south", "west"};
                String[] rows = new String[20];
                for (int y = 0; y < 20; y++) {
                    StringBuilder row = new StringBuilder();
                    for (int a = 0; a < 20; a++) {
                        row.append(tin[y][mirrored == 1 ? 19 - a : a] ? '#' : '.');
                    }
                    rows[y] = row.toString();
                }
                for (String side : sides) {
                    checkSpiral(Due.with(Due.drawn(rows) + "hold " + side + ";"), rows, side);
                }
            }
        }
    }

    private static void checkSpiral(TinStencils x, String[] rows, String side) {
        Slow slow = new Slow(20, 20);
        for (int k = 0; k < 4; k++) {
            slow.held[k] = new String[] {"north", "east", "south", "west"}[k].equals(side);
        }
        for (int y = 0; y < 20; y++) {
            for (int a = 0; a < 20; a++) {
                slow.through[y][a] = rows[y].charAt(a) == '.';
            }
        }
        int[][] tongues = slow.tongues(slow.tin(0), slow.rims());
        DUE.is("all hangs", x.judge(0, 0), slow.loose(slow.tin(0)) == 0 ? 1 : 0);
        DUE.is("pieces", x.falls(0, -1, 0), slow.pieces(0).size());
        DUE.is("necks", x.tongues(0, 0), Slow.above(tongues, 0));
        DUE.is("greatest", x.tongues(0, 1), Slow.greatest(tongues));
        DUE.is("cheapest", x.cheapest(0), 0);
    }

    private static boolean[][] spiral() {
        boolean[][] tin = new boolean[20][20];
        int a = 0;
        int b = 0;
        int side = 1;
        tin[0][0] = true;
        for (int length = 19, legs = 0; length > 0; legs++) {
            for (int k = 0; k < length; k++) {
                a += Slow.DX[side];
                b += Slow.DY[side];
                tin[b][a] = true;
            }
            side = (side + 1) % 4;
            length -= legs == 0 || legs % 2 == 1 ? 0 : 2;
        }
        return tin;
    }

    private static void farGap() {
        String cut = "t".repeat(20);
        StringBuilder text = new StringBuilder("plate 20 20;");
        for (int y = 0; y < 20; y++) {
            text.append("row " + y + " " + cut + ";");
        }
        TinStencils x = Due.with(text + "hold north;");
        x.change(0, 0, 19, false);
        DUE.is("none other", x.falls(0, 0, 3), -1);
        x.change(0, 19, 0, false);
        DUE.is("across the sheet", x.falls(0, 0, 3), 37);
        x.change(0, 19, 0, true);
        x.change(0, 0, 1, false);
        DUE.is("upwards", x.falls(0, 1, 3), 17);
        DUE.is("downwards", x.falls(0, 0, 3), 17);
        x.change(0, 10, 18, false);
        DUE.is("aside", x.falls(0, 1, 3), 10);
        DUE.is("to the lowest row", x.falls(0, 2, 3), 10);
    }
}
