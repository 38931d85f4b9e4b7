/** Promises 26 and 27: holes and the order of cutting them. */
public final class CutTest {
    private static final Due DUE = new Due();

    public static void main(String[] args) {
        holes();
        planning();
        firstByNumbers();
        many();
        DUE.end();
    }

    private static void holes() {
        TinStencils x = Due.with(Due.drawn(".#..", "#.#.", "....") + "bridge told 0 2;");
        DUE.is("holes", x.hole(0, -1, 0), 2);
        DUE.is("hole 0 squares", x.hole(0, 0, 0), 1);
        DUE.is("hole 0 x", x.hole(0, 0, 1), 0);
        DUE.is("hole 0 y", x.hole(0, 0, 2), 0);
        DUE.is("hole 1 squares", x.hole(0, 1, 0), 7);
        DUE.is("hole 1 x", x.hole(0, 1, 1), 2);
        DUE.is("hole 1 y", x.hole(0, 1, 2), 0);
        int[][] none = {{0, -1, 1}, {0, -1, -1}, {0, 2, 0}, {0, -2, 0}, {0, 0, 3}, {0, 0, -1}, {1, -1, 0}, {6, 0, 0}};
        for (int[] n : none) {
            DUE.is("hole of none", x.hole(n[0], n[1], n[2]), -1);
        }
        DUE.is("no holes", Due.with("plate 3 3;").hole(0, -1, 0), 0);
    }

    private static void planning() {
        TinStencils none = Due.with("plate 5 1;hold west;");
        DUE.is("without holes", none.cut(0, 0), 0);
        DUE.is("no first", none.cut(0, 10), -1);
        // a strip held by its west end: whichever hole is first, five squares fall or hang by a neck
        TinStencils strip = Due.with("plate 7 1;hold west;row 0 ststst;");
        DUE.is("greatest", strip.cut(0, 0), 5);
        DUE.is("of several the first", strip.cut(0, 10), 0);
        TinStencils ring = Due.with(Due.drawn("#####", "#.#.#", "#.#.#", "#...#", "#####"));
        DUE.is("one hole with a tongue", ring.cut(0, 0), 2);
        DUE.is("cut(0, 10)", ring.cut(0, 10), 0);
        DUE.is("cut(0, 11)", ring.cut(0, 11), -1);
        DUE.is("cut(0, 9)", ring.cut(0, 9), -1);
        DUE.is("cut(0, 1)", ring.cut(0, 1), -1);
        DUE.is("cut(0, -1)", ring.cut(0, -1), -1);
        DUE.is("cut(0, MIN)", ring.cut(0, Integer.MIN_VALUE), -1);
        DUE.is("cut(0, MAX)", ring.cut(0, Integer.MAX_VALUE), -1);
        DUE.is("cut(1, 0)", ring.cut(1, 0), -1);
        DUE.is("cut(-1, 0)", ring.cut(-1, 0), -1);
    }

    /** Hole 0 sets loose what hole 1 would cut away: hole 1 goes ahead. */
    private static void firstByNumbers() {
        TinStencils two = Due.with(Due.drawn("#.#..") + "hold west;");
        // hole 0 first: three fall; hole 1 first: a neck with a tongue of two; then one falls
        DUE.is("greatest", two.cut(0, 0), 2);
        DUE.is("the far one first", two.cut(0, 10), 1);
        DUE.is("then the near one", two.cut(0, 11), 0);
        TinStencils all = Due.with(Due.drawn("#####", "#.#.#", "#####", "#.#.#", "#####"));
        for (int k = 0; k < 4; k++) {
            DUE.is("by numbers", all.cut(0, 10 + k), k);
        }
        DUE.is("nothing loose", all.cut(0, 0), 0);
    }

    private static void many() {
        TinStencils eight = Due.with("plate 17 3;row 1 " + "st".repeat(8) + ";");
        DUE.is("eight holes", eight.hole(0, -1, 0), 8);
        DUE.is("planned", eight.cut(0, 0), 0);
        DUE.is("the last", eight.cut(0, 17), 7);
        DUE.is("no ninth", eight.cut(0, 18), -1);
        eight.change(0, 0, 0, true);
        DUE.is("nine by a change", eight.hole(0, -1, 0), 9);
        DUE.is("no more planned", eight.cut(0, 0), -1);
        TinStencils nine = Due.with("plate 19 3;row 1 " + "st".repeat(9) + ";bridge told 1 1;");
        DUE.is("eight with the bridge", nine.hole(0, -1, 0), 8);
        DUE.is("planned", nine.cut(0, 0), 0);
        nine.put(0, 0, false);
        DUE.is("nine", nine.hole(0, -1, 0), 9);
        DUE.is("not planned", nine.cut(0, 0), -1);
        DUE.is("not planned", nine.cut(0, 10), -1);
    }
}
