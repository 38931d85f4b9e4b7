/** Promises 10 to 12, 15, 18 and 19: bridges, judged and chosen, the first to go, what one spoils. */
public final class BridgeTest {
    private static final Due DUE = new Due();
    private static final String RING = Due.drawn("#####", "#...#", "#.#.#", "#...#", "#####");

    public static void main(String[] args) {
        kinds();
        putting();
        judging();
        hiding();
        choosing();
        choosingByNumber();
        spoiling();
        wrong();
        DUE.end();
    }

    private static void kinds() {
        TinStencils x = Due.with(Due.drawn("....", "....", "....", "....")
            + "bridge straight 1 1 north 3;"
            + "bridge broad 1 1 north 2 3 hidden;"
            + "bridge broad 1 1 east 9 2;"
            + "bridge broad 1 1 south 1 4;"
            + "bridge broad 1 1 west 2 2;"
            + "bridge corner 0 3 north 5 east 3;"
            + "bridge corner 0 0 east 3 west 2;"
            + "bridge told 3 3,3 3,0 0;");
        int[][] want = {{0, 2, 0, 100}, {1, 6, 1, 300}, {1, 6, 0, 200}, {1, 2, 0, 400}, {1, 4, 0, 200}, {2, 4, 0, 80}, {2, 3, 0, 80},
            {3, 2, 0, 120}};
        for (int b = 0; b < want.length; b++) {
            DUE.is("kind " + b, x.bridge(0, b, 0), want[b][0]);
            DUE.is("squares " + b, x.bridge(0, b, 1), want[b][1]);
            DUE.is("through " + b, x.bridge(0, b, 2), want[b][1]);
            DUE.is("hidden " + b, x.bridge(0, b, 3), want[b][2]);
            DUE.is("in " + b, x.bridge(0, b, 4), 1);
            DUE.is("lasts " + b, x.bridge(0, b, 5), want[b][3]);
            DUE.is("what 6", x.bridge(0, b, 6), -1);
            DUE.is("what -1", x.bridge(0, b, -1), -1);
        }
        squaresOf(x, 1, "####", ".###", "....", "....");
        squaresOf(x, 3, "....", "##..", "....", "....");
        squaresOf(x, 4, "##..", "##..", "....", "....");
        squaresOf(x, 5, "#...", "#...", "#...", "#...");
        squaresOf(x, 6, "###.", "....", "....", "....");
    }

    /** Bridge 1 begins at x 1 and goes two to the right of north: to the east. */
    private static void squaresOf(TinStencils x, int bridge, String... rows) {
        for (int b = 0; b < 8; b++) {
            x.put(0, b, b == bridge);
        }
        String[] due = bridge == 1 ? new String[] {".###", ".###", "....", "...."} : rows;
        for (int y = 0; y < 4; y++) {
            for (int a = 0; a < 4; a++) {
                DUE.is("bridge " + bridge + " at " + a + " " + y, x.square(0, a, y, 1), due[y].charAt(a) == '#' ? 1 : 0);
            }
        }
    }

    private static void putting() {
        TinStencils x = Due.with(RING + "bridge straight 2 1 north 1;bridge straight 2 3 north 1;");
        DUE.is("in", x.sheet(0, 5), 3);
        DUE.is("put", x.put(0, 1, false), true);
        DUE.is("put again", x.put(0, 1, false), true);
        DUE.is("in", x.sheet(0, 5), 1);
        DUE.is("tin", x.sheet(0, 9), 18);
        DUE.is("put back", x.put(0, 1, true), true);
        DUE.is("in", x.sheet(0, 5), 3);
        DUE.is("put(0, 2)", x.put(0, 2, true), false);
        DUE.is("put(0, -1)", x.put(0, -1, true), false);
        DUE.is("put(1, 0)", x.put(1, 0, true), false);
        DUE.is("put(6, 0)", x.put(6, 0, true), false);
        DUE.is("refused", x.count(10), 4);
        DUE.is("in", x.sheet(0, 5), 3);
        DUE.is("a new text has all in", Due.tell(x, 0, RING + "bridge told 1 1;"), 6);
        DUE.is("in", x.sheet(0, 5), 1);
    }

    private static void judging() {
        TinStencils x = Due.with(RING + "bridge straight 2 1 north 1;bridge told 2 3;bridge corner 2 2 east 2 north 1;wear 100;");
        DUE.is("hangs", x.judge(0, 0), 1);
        DUE.is("the told one is worn", x.judge(0, 1), 1);
        DUE.is("seen", x.judge(0, 2), 4);
        x.put(0, 1, false);
        DUE.is("the corner is worn", x.judge(0, 1), 2);
        DUE.is("first to go", x.first(0), 2);
        x.put(0, 2, false);
        DUE.is("not worn: it lasts as much", x.judge(0, 1), -1);
        DUE.is("first to go", x.first(0), 0);
        DUE.is("still hangs", x.judge(0, 0), 1);
        x.put(0, 0, false);
        DUE.is("falls", x.judge(0, 0), 0);
        DUE.is("seen", x.judge(0, 2), 0);
        DUE.is("first of none", x.first(0), -1);
        DUE.is("judge(0, 3)", x.judge(0, 3), -1);
        DUE.is("judge(0, -1)", x.judge(0, -1), -1);
        DUE.is("judge(1, 0)", x.judge(1, 0), -1);
        TinStencils same = Due.with("plate 3 3;bridge corner 0 0 east 1 south 1;bridge corner 0 0 east 1 south 1;");
        DUE.is("of several the least", same.first(0), 0);
    }

    private static void hiding() {
        TinStencils x = Due.with(RING + "worth 0 0 to 4 4 5;bridge straight 2 1 north 1 hidden;bridge told 2 1,1 1 hidden;bridge told 1 1;");
        DUE.is("no next sheet", x.judge(0, 2), 10);
        DUE.is("another sheet", Due.tell(x, 2, "plate 5 5;row 1 tttt;"), 1);
        DUE.is("not the next", x.judge(0, 2), 10);
        DUE.is("a small next sheet", Due.tell(x, 1, "plate 2 2;row 1 tt;"), 1);
        DUE.is("not there", x.judge(0, 2), 10);
        DUE.is("a next sheet", Due.tell(x, 1, "plate 5 5;row 1 tttt;"), 1);
        DUE.is("one is hidden, one has an open bridge too", x.judge(0, 2), 5);
        x.put(0, 2, false);
        DUE.is("both hidden", x.judge(0, 2), 0);
        DUE.is("the next one's bridge doesn't count", Due.tell(x, 1, "plate 5 5;row 1 tttt;bridge told 2 1;"), 2);
        DUE.is("both hidden", x.judge(0, 2), 0);
        x.change(1, 2, 1, false);
        DUE.is("the next one stays there", x.judge(0, 2), 5);
        TinStencils last = new TinStencils();
        Due.tell(last, 5, RING + "bridge told 2 1 hidden;");
        Due.tell(last, 0, RING);
        DUE.is("none is next to the last", last.judge(5, 2), 1);
    }

    private static void choosing() {
        TinStencils x = Due.with(RING + "worth 2 1 to 2 1 7;worth 2 3 to 2 3 4;"
            + "bridge straight 2 1 north 1;bridge straight 2 3 south 1;bridge straight 1 2 east 1;bridge told 1 1,2 1;");
        DUE.is("the least seen", x.choice(0, false, 0), 4);
        DUE.is("its seen", x.choice(0, false, 1), 1);
        DUE.is("how many", x.choice(0, false, 2), 1);
        DUE.is("twice", x.choice(0, true, 0), 6);
        DUE.is("its seen", x.choice(0, true, 1), 5);
        DUE.is("how many", x.choice(0, true, 2), 2);
        x.put(0, 2, false);
        DUE.is("which are in is nothing to it", x.choice(0, false, 0), 4);
        x.change(0, 2, 2, true);
        DUE.is("nothing falls", x.choice(0, false, 0), 0);
        DUE.is("nothing falls, twice", x.choice(0, true, 0), 0);
        DUE.is("its seen", x.choice(0, true, 1), 0);
        TinStencils none = Due.with(RING + "bridge told 1 1;");
        for (int k = 0; k < 6; k++) {
            DUE.is("none does", none.choice(0, k % 2 == 1, k / 2), -1);
        }
        DUE.is("no bridges", Due.with(RING).choice(0, false, 0), -1);
        DUE.is("no bridges, all hangs", Due.with("plate 3 3;").choice(0, true, 0), 0);
        DUE.is("twice with one", Due.with(RING + "bridge told 2 1;").choice(0, true, 0), -1);
    }

    private static void choosingByNumber() {
        TinStencils fewest = Due.with(RING + "worth 0 0 to 4 4 0;bridge told 2 1;bridge told 1 2;");
        DUE.is("the fewest, then the least", fewest.choice(0, false, 0), 1);
        DUE.is("the fewest twice", fewest.choice(0, true, 0), 3);
        TinStencils floating = Due.with(Due.drawn("###", "...", "...", "...") + "hold north;bridge told 1 3;bridge told 1 1,1 2;");
        DUE.is("a bridge can fall", floating.judge(0, 0), 1);
        floating.put(0, 1, false);
        DUE.is("it does", floating.judge(0, 0), 0);
        StringBuilder many = new StringBuilder(RING);
        for (int k = 0; k < 11; k++) {
            many.append("bridge told 1 1;");
        }
        DUE.is("the twelfth", Due.with(many + "bridge told 2 3;").choice(0, false, 0), 1 << 11);
    }

    private static void spoiling() {
        TinStencils x = Due.with(Due.drawn(".....", "..#..", "..#..", ".....") + "hold north;bridge told 2 0;bridge told 2 3;bridge told 0 3;");
        DUE.is("all that hangs by it", x.spoilt(0, 0), 3);
        DUE.is("its own square is less of tin", x.spoilt(0, 1), 0);
        DUE.is("without it less doesn't hang", x.spoilt(0, 2), -1);
        x.put(0, 0, false);
        DUE.is("not in", x.spoilt(0, 0), -1);
        TinStencils two = Due.with(RING + "bridge told 2 1;bridge told 2 3;");
        DUE.is("another holds", two.spoilt(0, 0), 0);
        two.put(0, 1, false);
        DUE.is("none other holds", two.spoilt(0, 0), 1);
    }

    private static void wrong() {
        TinStencils x = Due.with(RING + "bridge told 2 1;");
        DUE.is("bridge(0, 1, 0)", x.bridge(0, 1, 0), -1);
        DUE.is("bridge(0, -1, 0)", x.bridge(0, -1, 0), -1);
        DUE.is("bridge(0, 32, 0)", x.bridge(0, 32, 0), -1);
        DUE.is("bridge(1, 0, 0)", x.bridge(1, 0, 0), -1);
        DUE.is("choice(0, false, 3)", x.choice(0, false, 3), -1);
        DUE.is("choice(0, false, -1)", x.choice(0, false, -1), -1);
        DUE.is("choice(1, false, 0)", x.choice(1, false, 0), -1);
        DUE.is("choice(MAX)", x.choice(Integer.MAX_VALUE, true, 0), -1);
        DUE.is("spoilt(0, 1)", x.spoilt(0, 1), -1);
        DUE.is("spoilt(0, -1)", x.spoilt(0, -1), -1);
        DUE.is("spoilt(0, 32)", x.spoilt(0, 32), -1);
        DUE.is("spoilt(2, 0)", x.spoilt(2, 0), -1);
        DUE.is("first(1)", x.first(1), -1);
        DUE.is("first(-1)", x.first(-1), -1);
        DUE.is("judge(6, 0)", x.judge(6, 0), -1);
    }
}
