/** Promises 6 to 9, 16 and 17: squares, pieces and gaps, tongues, changes; what sags. */
public final class HangTest {
    private static final Due DUE = new Due();

    public static void main(String[] args) {
        squares();
        holding();
        pieces();
        gaps();
        necks();
        changes();
        sagging();
        corners();
        DUE.end();
    }

    private static void squares() {
        TinStencils x = Due.with(Due.drawn("###", "#.#", "###") + "bridge told 1 1;");
        DUE.is("through", x.square(0, 1, 1, 0), 1);
        DUE.is("tin by a bridge", x.square(0, 1, 1, 1), 1);
        DUE.is("put out", x.put(0, 0, false), true);
        DUE.is("no tin", x.square(0, 1, 1, 1), 0);
        DUE.is("what isn't tin doesn't hang", x.square(0, 1, 1, 3), 0);
        DUE.is("nor is it of a piece", x.square(0, 1, 1, 4), -1);
        DUE.is("nor a neck", x.square(0, 1, 1, 5), 0);
        int[][] none = {{0, -1, 0, 0}, {0, 3, 0, 0}, {0, 0, -1, 0}, {0, 0, 3, 0}, {0, 0, 0, -1}, {0, 0, 0, 6}, {1, 0, 0, 0},
            {-1, 0, 0, 0}, {6, 0, 0, 0}, {0, Integer.MAX_VALUE, 0, 0}, {0, Integer.MIN_VALUE, 0, 0}};
        for (int[] n : none) {
            DUE.is("square of none", x.square(n[0], n[1], n[2], n[3]), -1);
        }
    }

    private static void holding() {
        String ring = Due.drawn("#.#", "...", "#.#");
        String[] sides = {"north", "east", "south", "west"};
        int[][] hang = {{1, 1, 0, 0}, {0, 1, 0, 1}, {0, 0, 1, 1}, {1, 0, 1, 0}};
        for (int k = 0; k < 4; k++) {
            TinStencils x = Due.with(ring + "hold " + sides[k] + ";");
            DUE.is("held", x.sheet(0, 6), 1 << k);
            for (int c = 0; c < 4; c++) {
                DUE.is(sides[k] + " corner " + c, x.square(0, c % 2 * 2, c / 2 * 2, 3), hang[k][c]);
            }
        }
        TinStencils slanting = Due.with(Due.drawn("#.", ".#") + "hold north;");
        DUE.is("aslant is not joined", slanting.square(0, 1, 1, 3), 0);
    }

    private static void pieces() {
        TinStencils x = Due.with(Due.drawn("......", ".#..#.", ".##.#.", "......"));
        DUE.is("pieces", x.falls(0, -1, 0), 2);
        int[][] want = {{3, 1, 1, 1}, {2, 4, 1, 1}};
        for (int k = 0; k < 2; k++) {
            for (int what = 0; what < 4; what++) {
                DUE.is("falls(0, " + k + ", " + what + ")", x.falls(0, k, what), want[k][what]);
            }
        }
        DUE.is("square of piece 1", x.square(0, 4, 2, 4), 1);
        DUE.is("square of piece 0", x.square(0, 2, 2, 4), 0);
        int[][] none = {{0, -1, 1}, {0, -1, 3}, {0, -2, 0}, {0, 2, 0}, {0, 2, 3}, {0, 0, 4}, {0, 0, -1}, {1, -1, 0}, {6, 0, 0}, {-1, 0, 0}};
        for (int[] n : none) {
            DUE.is("falls of none", x.falls(n[0], n[1], n[2]), -1);
        }
    }

    private static void gaps() {
        DUE.is("alone", Due.with(Due.drawn("...", ".#.", "...")).falls(0, 0, 3), -1);
        TinStencils far = Due.with(Due.drawn(".......", ".#.....", "......."
            , ".......", "....##.", "......."));
        DUE.is("around the corner", far.falls(0, 0, 3), 5);
        DUE.is("back again", far.falls(0, 1, 3), 5);
        TinStencils rim = Due.with(Due.drawn("....", ".#.#", "...."));
        DUE.is("to what hangs", rim.falls(0, 0, 3), 1);
        DUE.is("one piece", rim.falls(0, -1, 0), 1);
        TinStencils bridged = Due.with(Due.drawn("#....", "..#..", ".....") + "hold west;bridge told 1 2;");
        DUE.is("to a bridge's tin", bridged.falls(0, 0, 3), 1);
        DUE.is("put", bridged.put(0, 0, false), true);
        DUE.is("without it", bridged.falls(0, 0, 3), 2);
    }

    private static void necks() {
        TinStencils x = Due.with(Due.drawn("#####", ".....") + "hold west;brush 2;");
        for (int k = 0; k < 5; k++) {
            DUE.is("tongue " + k, x.square(0, k, 0, 5), 4 - k);
        }
        DUE.is("necks", x.tongues(0, 0), 4);
        DUE.is("greatest", x.tongues(0, 1), 4);
        DUE.is("above the brush", x.tongues(0, 2), 2);
        DUE.is("tongues(0, 3)", x.tongues(0, 3), -1);
        DUE.is("tongues(0, -1)", x.tongues(0, -1), -1);
        DUE.is("tongues(1, 0)", x.tongues(1, 0), -1);
        TinStencils both = Due.with(Due.drawn("#####") + "hold west east;");
        DUE.is("held at both ends", both.tongues(0, 0), 0);
        DUE.is("greatest of none", both.tongues(0, 1), 0);
        TinStencils fork = Due.with(Due.drawn("..#..", "#####", "#...#", "#...#") + "hold north;");
        DUE.is("two branches", fork.square(0, 2, 0, 5), 9);
        DUE.is("the fork", fork.square(0, 2, 1, 5), 8);
        TinStencils fallen = Due.with(Due.drawn(".....", ".###.", ".....") );
        DUE.is("what falls has no necks", fallen.tongues(0, 0), 0);
    }

    private static void changes() {
        TinStencils x = Due.with("plate 3 3;bridge told 1 1;");
        DUE.is("through", x.change(0, 1, 1, true), true);
        DUE.is("through again", x.change(0, 1, 1, true), true);
        DUE.is("by the text", x.square(0, 1, 1, 0), 1);
        DUE.is("of the bridge", x.bridge(0, 0, 2), 1);
        DUE.is("still tin", x.square(0, 1, 1, 1), 1);
        DUE.is("stays", x.change(0, 1, 1, false), true);
        DUE.is("by the text", x.square(0, 1, 1, 0), 0);
        int before = x.count(10);
        DUE.is("change(0, 3, 0)", x.change(0, 3, 0, true), false);
        DUE.is("change(0, 0, 3)", x.change(0, 0, 3, true), false);
        DUE.is("change(0, -1, 0)", x.change(0, -1, 0, true), false);
        DUE.is("change(0, 0, -1)", x.change(0, 0, -1, true), false);
        DUE.is("change(1, 0, 0)", x.change(1, 0, 0, true), false);
        DUE.is("change(-1, 0, 0)", x.change(-1, 0, 0, true), false);
        DUE.is("change(6, 0, 0)", x.change(6, 0, 0, true), false);
        DUE.is("refused", x.count(10), before + 7);
        DUE.is("tin", x.sheet(0, 9), 9);
    }

    private static void sagging() {
        TinStencils x = Due.with(Due.drawn("#####", ".....", ".##..") + "hold north;");
        DUE.is("sag at the end", x.sag(0, 0, 0, 0, 0), 3);
        DUE.is("sag in the middle", x.sag(0, 2, 0, 0, 0), 1);
        DUE.is("above 0", x.sag(0, 0, 0, 0, 1), 3);
        DUE.is("above 1", x.sag(0, 0, 0, 1, 1), 2);
        DUE.is("above 3", x.sag(0, 0, 0, 3, 1), 0);
        DUE.is("above -1", x.sag(0, 0, 0, -1, 1), 3);
        DUE.is("above the least", x.sag(0, 0, 0, Integer.MIN_VALUE, 1), 3);
        DUE.is("what falls can be held", x.sag(0, 1, 2, 0, 0), 0);
        DUE.is("no tin", x.sag(0, 0, 1, 0, 0), -1);
        DUE.is("sag(0, 0, 0, 0, 2)", x.sag(0, 0, 0, 0, 2), -1);
        DUE.is("sag(0, 0, 0, 0, -1)", x.sag(0, 0, 0, 0, -1), -1);
        DUE.is("sag(0, 5, 0, 0, 0)", x.sag(0, 5, 0, 0, 0), -1);
        DUE.is("sag(0, 0, -1, 0, 0)", x.sag(0, 0, -1, 0, 0), -1);
        DUE.is("sag(1, 0, 0, 0, 0)", x.sag(1, 0, 0, 0, 0), -1);
    }

    private static void corners() {
        DUE.is("all alike", Due.with("plate 4 4;").corner(0), 0);
        DUE.is("one square", Due.with("plate 1 1;").corner(0), 0);
        DUE.is("no tin", Due.with("plate 1 1;row 0 t;").corner(0), -1);
        DUE.is("only lower right", Due.with(Due.drawn(".#.", "###", ".##")).corner(0), 2);
        DUE.is("only lower left", Due.with(Due.drawn(".#.", "###", "##.")).corner(0), 3);
        DUE.is("upper right is less", Due.with(Due.drawn("###.#", ".....")).corner(0), 1);
        DUE.is("none told", new TinStencils().corner(0), -1);
        DUE.is("no such", new TinStencils().corner(-1), -1);
    }
}
