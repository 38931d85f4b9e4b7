/** Promises 13 and 14: what joins for the least worth, and the fewest squares changed. */
public final class JoinTest {
    private static final Due DUE = new Due();

    public static void main(String[] args) {
        plain();
        bridgesDontCount();
        roundabout();
        seven();
        shared();
        wrong();
        DUE.end();
    }

    private static void both(String call, TinStencils x, int cheapest, int made) {
        DUE.is(call + ": cheapest", x.cheapest(0), cheapest);
        DUE.is(call + ": made", x.made(0), made);
    }

    private static void plain() {
        both("nothing falls", Due.with("plate 5 5;"), 0, 0);
        both("no tin", Due.with("plate 2 1;row 0 tt;"), 0, 0);
        String ring = Due.drawn("#####", "#...#", "#...#", "#.#.#", "#...#", "#...#", "#####");
        both("one to a side", Due.with(ring), 1, 1);
        both("worth", Due.with(ring + "worth 1 1 to 3 5 9;worth 2 1 to 2 2 4;"), 8, 1);
        both("for nothing", Due.with(ring + "worth 1 1 to 3 5 9;worth 2 1 to 2 2 0;"), 0, 1);
        both("cut away rather", Due.with(Due.drawn(".....", ".....", "..#..", ".....", ".....")), 2, 1);
        both("join rather", Due.with(Due.drawn(".....", "..#..", "..#..", ".###.", ".....")), 1, 1);
    }

    private static void bridgesDontCount() {
        TinStencils x = Due.with(Due.drawn(".....", ".....", ".###.", ".###.", ".....", ".....") + "hold north;bridge told 2 0,2 1;");
        DUE.is("hangs", x.judge(0, 0), 1);
        both("as if it had no bridges", x, 2, 2);
        StringBuilder many = new StringBuilder("plate 20 2;row 0 " + "t".repeat(20) + ";row 1 " + "st".repeat(10) + ";hold north;");
        for (int k = 0; k < 10; k++) {
            many.append("bridge told " + 2 * k + " 0;");
        }
        TinStencils ten = Due.with(many.toString());
        DUE.is("nothing falls with them", ten.falls(0, -1, 0), 0);
        both("more than 7 without them", ten, -1, -1);
    }

    private static void roundabout() {
        TinStencils x = Due.with(Due.drawn("......", ".#.#..", "......", "......", "......", "......", "......")
            + "hold south;worth 0 0 to 5 6 9;worth 2 1 to 2 1 0;worth 4 1 to 4 1 1;worth 5 1 to 5 6 1;");
        both("over the other piece", x, 7, 2);
        TinStencils frame = Due.with(Due.drawn("#....#", "......", ".#..#.", "......") + "hold south;");
        both("each by itself", frame, 6, 4);
    }

    private static void seven() {
        StringBuilder text = new StringBuilder("plate 15 3;row 0 " + "t".repeat(15) + ";row 1 " + "ts".repeat(7) + "t;row 2 " + "t".repeat(15) + ";");
        TinStencils x = Due.with(text + "hold north;");
        DUE.is("pieces", x.falls(0, -1, 0), 7);
        both("seven", x, 7, 7);
        both("seven in a row", Due.with(text + "hold west;worth 0 1 to 14 1 2;"), 14, 7);
        StringBuilder eight = new StringBuilder("plate 17 3;row 0 " + "t".repeat(17) + ";row 1 " + "ts".repeat(8) + "t;row 2 " + "t".repeat(17) + ";");
        both("eight", Due.with(eight.toString()), -1, -1);
    }

    /** Three pieces around a middle: joined there, not one by one. */
    private static void shared() {
        TinStencils x = Due.with(Due.drawn(".......", "...#...", "...#...", ".##.##.", ".##.##.", ".......", ".......", "......."
            , ".......") + "hold south;worth 0 0 to 6 8 3;worth 3 3 to 3 3 1;");
        both("by the middle", x, 1 + 4 * 3, 5);
    }

    private static void wrong() {
        TinStencils x = Due.with("plate 2 2;");
        for (int s : new int[] {-1, 1, 6, Integer.MAX_VALUE, Integer.MIN_VALUE}) {
            DUE.is("cheapest of none", x.cheapest(s), -1);
            DUE.is("made of none", x.made(s), -1);
        }
    }
}
