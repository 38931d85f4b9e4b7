/** Each sentence about bridges and joining, with a test of its own: promises 10 to 15, 18 and 19. */
public final class BridgeEdgesTest {
    private static final Due DUE = new Due();
    private static final int LOW = Integer.MIN_VALUE;
    private static final int HIGH = Integer.MAX_VALUE;
    private static final String OPEN = Due.drawn(".....", ".....", ".....", ".....", ".....");
    private static final String RING = Due.drawn("#####", "#...#", "#.#.#", "#...#", "#####");

    public static void main(String[] args) {
        straight();
        straightOutside();
        broad();
        broadOutside();
        cornerWithoutItsLast();
        cornerOutside();
        cornerBack();
        told();
        kinds();
        lasts();
        atFirstAllIn();
        bridgeOfNone();
        throughByTheText();
        worn();
        firstOfSeveral();
        seenOnce();
        hiddenAlone();
        nextSheet();
        nextSheetOfChoice();
        nextOfTheLast();
        judgeOfNone();
        sevenPieces();
        cheapestForNothing();
        cheapestAtMost();
        madeByCutting();
        withoutBridges();
        joiningOfNone();
        choiceLeastSeen();
        choiceFewest();
        choiceLeastBits();
        choiceOfNoBridges();
        choiceOfTwelve();
        twice();
        choiceOfNone();
        spoilt();
        spoiltOfNone();
        DUE.end();
    }

    /** The squares of the only bridge of an open sheet. */
    private static void squares(String bridge, String... rows) {
        TinStencils x = Due.with(OPEN + "bridge " + bridge + ";");
        int number = 0;
        for (int y = 0; y < 5; y++) {
            for (int a = 0; a < 5; a++) {
                boolean marked = rows[y].charAt(a) == '#';
                number += marked ? 1 : 0;
                DUE.is(bridge + " at " + a + " " + y, x.square(0, a, y, 1), marked ? 1 : 0);
            }
        }
        DUE.is(bridge + ": its squares", x.bridge(0, 0, 1), number);
        DUE.is(bridge + ": through by the text", x.bridge(0, 0, 2), number);
    }

    private static void straight() {
        DUE.says("\"straight\": LONG from X Y on towards a SIDE");
        squares("straight 2 2 north 1", ".....", ".....", "..#..", ".....", ".....");
        squares("straight 2 2 north 2", ".....", "..#..", "..#..", ".....", ".....");
        squares("straight 2 2 east 2", ".....", ".....", "..##.", ".....", ".....");
        squares("straight 2 2 south 2", ".....", ".....", "..#..", "..#..", ".....");
        squares("straight 2 2 west 2", ".....", ".....", ".##..", ".....", ".....");
    }

    private static void straightOutside() {
        DUE.says("those outside the sheet don't count (straight)");
        squares("straight 2 2 north 3", "..#..", "..#..", "..#..", ".....", ".....");
        squares("straight 2 2 north 20", "..#..", "..#..", "..#..", ".....", ".....");
        squares("straight 2 2 east 4", ".....", ".....", "..###", ".....", ".....");
        squares("straight 2 2 south 20", ".....", ".....", "..#..", "..#..", "..#..");
        squares("straight 2 2 west 4", ".....", ".....", "###..", ".....", ".....");
        TinStencils wide = Due.with("plate 20 20;bridge straight 19 0 east 20;bridge straight 0 0 west 20;bridge straight 0 0 east 20;"
            + "bridge straight 5 19 south 2;bridge straight 5 19 north 20;");
        int[] want = {1, 1, 20, 1, 20};
        for (int b = 0; b < want.length; b++) {
            DUE.is("bridge " + b, wide.bridge(0, b, 1), want[b]);
        }
    }

    private static void broad() {
        DUE.says("\"broad\": BROAD less 1 such rows beside it (towards the SIDE a quarter to the right)");
        squares("broad 2 2 north 2 2", ".....", "..##.", "..##.", ".....", ".....");
        squares("broad 2 2 east 2 2", ".....", ".....", "..##.", "..##.", ".....");
        squares("broad 2 2 south 2 2", ".....", ".....", ".##..", ".##..", ".....");
        squares("broad 2 2 west 2 2", ".....", ".##..", ".##..", ".....", ".....");
        squares("broad 0 1 north 1 4", ".....", "####.", ".....", ".....", ".....");
        squares("broad 0 1 north 1 3", ".....", "###..", ".....", ".....", ".....");
    }

    private static void broadOutside() {
        DUE.says("those outside the sheet don't count (broad)");
        squares("broad 4 0 north 9 4", "....#", ".....", ".....", ".....", ".....");
        squares("broad 3 3 east 9 4", ".....", ".....", ".....", "...##", "...##");
        squares("broad 1 4 south 9 4", ".....", ".....", ".....", ".....", "##...");
        squares("broad 0 1 west 9 4", "#....", "#....", ".....", ".....", ".....");
        DUE.is("lasts as broad as told", Due.with(OPEN + "bridge broad 4 0 north 9 4;").bridge(0, 0, 5), 400);
    }

    private static void cornerWithoutItsLast() {
        DUE.says("\"corner\": then from the last of these on LONG more towards the second SIDE (without it)");
        squares("corner 1 3 north 2 east 2", ".....", ".....", ".###.", ".#...", ".....");
        squares("corner 1 3 north 1 east 1", ".....", ".....", ".....", ".##..", ".....");
        squares("corner 1 1 east 3 south 2", ".....", ".###.", "...#.", "...#.", ".....");
        squares("corner 3 1 south 3 west 1", ".....", "...#.", "...#.", "..##.", ".....");
        squares("corner 3 3 west 2 north 3", "..#..", "..#..", "..#..", "..##.", ".....");
        squares("corner 1 1 east 2 east 2", ".....", ".####", ".....", ".....", ".....");
    }

    private static void cornerOutside() {
        DUE.says("from the last of these (inside the sheet or not)");
        squares("corner 1 1 north 3 east 3", ".#...", ".#...", ".....", ".....", ".....");
        squares("corner 1 0 north 2 south 4", ".#...", ".#...", ".#...", ".#...", ".....");
        squares("corner 3 1 east 3 west 4", ".....", ".####", ".....", ".....", ".....");
        squares("corner 3 1 east 20 west 20", ".....", "..###", ".....", ".....", ".....");
        squares("corner 2 3 south 20 north 20", ".....", ".....", "..#..", "..#..", "..#..");
    }

    private static void cornerBack() {
        DUE.says("a BRIDGE's squares (a corner back over itself)");
        squares("corner 1 1 east 3 west 2", ".....", ".###.", ".....", ".....", ".....");
        squares("corner 1 1 east 3 west 3", ".....", "####.", ".....", ".....", ".....");
    }

    private static void told() {
        DUE.says("\"told\": these");
        squares("told 0 0", "#....", ".....", ".....", ".....", ".....");
        squares("told 4 4,0 4,4 0", "....#", ".....", ".....", ".....", "#...#");
        squares("told 0 0,1 0,2 0,3 0,4 0,4 1,4 2,4 3", "#####", "....#", "....#", "....#", ".....");
    }

    private static void kinds() {
        DUE.says("0 what (0 straight, 1 broad, 2 corner, 3 told), 3 whether it's hidden (1)");
        String[] bridges = {"straight 0 0 north 1", "broad 0 0 east 1 2", "corner 0 0 east 1 south 1", "told 0 0"};
        for (int k = 0; k < 4; k++) {
            TinStencils x = Due.with(OPEN + "bridge " + bridges[k] + ";bridge " + bridges[k] + " hidden;");
            DUE.is(bridges[k], x.bridge(0, 0, 0), k);
            DUE.is(bridges[k] + " hidden", x.bridge(0, 1, 0), k);
            DUE.is(bridges[k] + ": not hidden", x.bridge(0, 0, 3), 0);
            DUE.is(bridges[k] + " hidden: hidden", x.bridge(0, 1, 3), 1);
        }
    }

    private static void lasts() {
        DUE.says("It LASTS: \"straight\" 100, \"broad\" 100 times BROAD, \"corner\" 80, \"told\" 60 for each of its squares");
        String[] bridges = {"straight 0 0 north 1", "straight 0 0 east 20", "broad 0 0 east 1 2", "broad 0 0 east 1 3", "broad 0 0 east 1 4",
            "corner 0 0 east 1 south 1", "corner 0 0 east 20 south 20", "told 0 0", "told 0 0,1 1", "told 0 0,1 0,2 0,3 0,4 0,4 1,4 2,4 3"};
        int[] want = {100, 100, 200, 300, 400, 80, 80, 60, 120, 480};
        for (int k = 0; k < bridges.length; k++) {
            DUE.is(bridges[k], Due.with(OPEN + "bridge " + bridges[k] + ";").bridge(0, 0, 5), want[k]);
        }
    }

    private static void atFirstAllIn() {
        DUE.says("Which BRIDGES are IN is told (at first all)");
        StringBuilder text = new StringBuilder("plate 1 1;");
        for (int n = 0; n <= 12; n++) {
            DUE.is(n + " in", Due.with(text.toString()).sheet(0, 5), (1 << n) - 1);
            DUE.is(n + " there", Due.with(text.toString()).sheet(0, 4), n);
            text.append("bridge told 0 0;");
        }
    }

    private static void bridgeOfNone() {
        DUE.says("NONE: none such (bridge)");
        TinStencils x = Due.with("plate 1 1;" + "bridge told 0 0;".repeat(12));
        for (int what = 0; what <= 5; what++) {
            DUE.is("the twelfth", x.bridge(0, 11, what), new int[] {3, 1, 0, 0, 1, 60}[what]);
            for (int b : new int[] {-1, 12, 32, LOW, HIGH}) {
                DUE.is("bridge(0, " + b + ", " + what + ")", x.bridge(0, b, what), -1);
            }
            for (int s : new int[] {-1, 1, 6, LOW, HIGH}) {
                DUE.is("bridge(" + s + ", 0, " + what + ")", x.bridge(s, 0, what), -1);
            }
            DUE.is("without any", Due.with("plate 1 1;").bridge(0, 0, what), -1);
        }
        for (int what : new int[] {-1, 6, LOW, HIGH}) {
            DUE.is("bridge(0, 0, " + what + ")", x.bridge(0, 0, what), -1);
        }
    }

    private static void throughByTheText() {
        DUE.says("1 its squares, 2 those THROUGH by the text");
        TinStencils x = Due.with("plate 3 1;row 0 sts;bridge straight 0 0 east 3 hidden;");
        DUE.is("squares", x.bridge(0, 0, 1), 3);
        DUE.is("through", x.bridge(0, 0, 2), 1);
        x.put(0, 0, false);
        DUE.is("through when out", x.bridge(0, 0, 2), 1);
        x.change(0, 1, 0, false);
        DUE.is("none", x.bridge(0, 0, 2), 0);
        DUE.is("hidden", x.bridge(0, 0, 3), 1);
    }

    private static void worn() {
        DUE.says("the first that LASTS less than the wear (1; NONE)");
        String bridges = "bridge straight 0 0 north 1;bridge corner 0 0 east 1 south 1;bridge told 0 0;bridge told 0 0;";
        int[][] want = {{0, -1}, {59, -1}, {60, -1}, {61, 2}, {80, 2}, {81, 1}, {100, 1}, {101, 0}, {999, 0}};
        for (int[] w : want) {
            DUE.is("wear " + w[0], Due.with("plate 2 2;" + bridges + "wear " + w[0] + ";").judge(0, 1), w[1]);
        }
        TinStencils x = Due.with("plate 2 2;" + bridges + "wear 101;");
        x.put(0, 0, false);
        DUE.is("by bridges in", x.judge(0, 1), 1);
        x.put(0, 1, false);
        x.put(0, 2, false);
        DUE.is("the last", x.judge(0, 1), 3);
        x.put(0, 3, false);
        DUE.is("none in", x.judge(0, 1), -1);
        DUE.is("without any", Due.with("plate 2 2;wear 999;").judge(0, 1), -1);
    }

    private static void firstOfSeveral() {
        DUE.says("FIRST: of BRIDGES IN the one that LASTS least (of several the least)");
        TinStencils x = Due.with("plate 2 2;bridge straight 0 0 north 1;bridge told 0 0;bridge told 1 1;bridge told 0 0,1 1;");
        DUE.is("of two alike", x.first(0), 1);
        x.put(0, 1, false);
        DUE.is("the other", x.first(0), 2);
        x.put(0, 2, false);
        DUE.is("the next", x.first(0), 0);
        x.put(0, 0, false);
        DUE.is("the last", x.first(0), 3);
        x.put(0, 3, false);
        DUE.says("NONE: none such (first)");
        DUE.is("none in", x.first(0), -1);
        DUE.is("without any", Due.with("plate 2 2;").first(0), -1);
        for (int s : new int[] {-1, 1, 6, LOW, HIGH}) {
            DUE.is("first(" + s + ")", x.first(s), -1);
        }
    }

    private static void seenOnce() {
        DUE.says("SEEN by BRIDGES: the worth of all squares that are THROUGH by the text and in one of them at least");
        TinStencils x = Due.with("plate 3 1;row 0 tts;worth 0 0 to 0 0 10;worth 1 0 to 1 0 0;worth 2 0 to 2 0 99;"
            + "bridge told 0 0,2 0;bridge told 0 0;bridge told 1 0;");
        DUE.is("in two, counted once", x.judge(0, 2), 10);
        x.put(0, 0, false);
        DUE.is("in one", x.judge(0, 2), 10);
        x.put(0, 1, false);
        DUE.is("worth 0", x.judge(0, 2), 0);
        x.put(0, 2, false);
        DUE.is("none in", x.judge(0, 2), 0);
        StringBuilder all = new StringBuilder("plate 20 20;worth 0 0 to 19 19 99;");
        for (int y = 0; y < 20; y++) {
            all.append("row " + y + " " + "t".repeat(20) + ";");
        }
        for (int k = 0; k < 5; k++) {
            all.append("bridge broad 0 " + 4 * k + " east 20 4;");
        }
        DUE.is("the most", Due.with(all.toString()).judge(0, 2), 39600);
        DUE.is("the most left", Due.with(all.toString()).left(0), 39600);
    }

    private static void hiddenAlone() {
        DUE.says("not of a square that is in \"hidden\" ones alone and THROUGH by the text of the next SHEET");
        String text = "plate 2 1;row 0 tt;bridge told 0 0 hidden;bridge told 0 0,1 0 hidden;bridge told 0 0;";
        TinStencils x = Due.with(text);
        Due.tell(x, 1, "plate 2 1;row 0 tt;bridge told 0 0;");
        DUE.is("one is open as well", x.judge(0, 2), 1);
        x.put(0, 2, false);
        DUE.is("hidden alone", x.judge(0, 2), 0);
        x.change(1, 1, 0, false);
        DUE.is("the next stays there", x.judge(0, 2), 1);
        x.put(0, 1, false);
        DUE.is("not in", x.judge(0, 2), 0);
        x.put(0, 0, false);
        x.put(0, 2, true);
        DUE.is("no hidden one", x.judge(0, 2), 1);
    }

    private static void nextSheet() {
        DUE.says("number one more; if it's told, and there");
        String text = "plate 3 2;row 0 ttt;row 1 ttt;bridge straight 0 0 east 3 hidden;bridge straight 0 1 east 3 hidden;";
        TinStencils x = new TinStencils();
        Due.tell(x, 2, text);
        DUE.is("not told", x.judge(2, 2), 6);
        Due.tell(x, 1, "plate 3 2;row 0 ttt;row 1 ttt;");
        Due.tell(x, 4, "plate 3 2;row 0 ttt;row 1 ttt;");
        DUE.is("others", x.judge(2, 2), 6);
        Due.tell(x, 3, "plate 2 2;row 0 tt;row 1 tt;");
        DUE.is("less wide", x.judge(2, 2), 2);
        Due.tell(x, 3, "plate 3 1;row 0 ttt;");
        DUE.is("less high", x.judge(2, 2), 3);
        Due.tell(x, 3, "plate 20 20;row 0 tttt;row 1 tttt;");
        DUE.is("greater", x.judge(2, 2), 0);
    }

    private static void nextSheetOfChoice() {
        DUE.says("CHOICE: the least SEEN (by the next SHEET, too)");
        TinStencils x = new TinStencils();
        Due.tell(x, 2, RING + "worth 1 2 to 1 2 5;bridge told 2 1;bridge told 1 2 hidden;");
        String open = "plate 5 5;row 2 ttttt;";
        Due.tell(x, 1, open);
        Due.tell(x, 4, open);
        DUE.is("the next isn't told", x.choice(2, false, 0), 1);
        DUE.is("its seen", x.choice(2, false, 1), 1);
        Due.tell(x, 3, open);
        DUE.is("the next hides one", x.choice(2, false, 0), 2);
        DUE.is("its seen", x.choice(2, false, 1), 0);
        DUE.is("both twice", x.choice(2, true, 1), 1);
    }

    private static void nextOfTheLast() {
        DUE.says("the next SHEET (number one more): none behind 5");
        TinStencils x = new TinStencils();
        Due.tell(x, 5, "plate 1 1;row 0 t;bridge told 0 0 hidden;");
        Due.tell(x, 0, "plate 1 1;row 0 t;");
        DUE.is("the first isn't next", x.judge(5, 2), 1);
        Due.tell(x, 4, "plate 1 1;row 0 t;bridge told 0 0 hidden;");
        DUE.is("5 is next to 4", x.judge(4, 2), 0);
    }

    private static void judgeOfNone() {
        DUE.says("NONE: none such (judge)");
        TinStencils x = Due.with("plate 1 1;");
        for (int what : new int[] {-1, 3, LOW, HIGH}) {
            DUE.is("judge(0, " + what + ")", x.judge(0, what), -1);
        }
        for (int s : new int[] {-1, 1, 6, LOW, HIGH}) {
            for (int what = 0; what < 3; what++) {
                DUE.is("judge(" + s + ", " + what + ")", x.judge(s, what), -1);
            }
        }
        DUE.says("whether all TIN hangs (what 0)");
        DUE.is("all", Due.with("plate 20 20;").judge(0, 0), 1);
        DUE.is("none there", Due.with("plate 1 1;row 0 t;").judge(0, 0), 1);
        DUE.is("one doesn't", Due.with(RING).judge(0, 0), 0);
    }

    /** So many pieces in a row, with tin above. */
    private static TinStencils pieces(int n) {
        return Due.with("plate 20 3;row 1 " + "t".repeat(20) + ";row 2 " + "ts".repeat(n) + "t".repeat(20 - 2 * n) + ";hold north;");
    }

    private static void sevenPieces() {
        DUE.says("told for at most 7 PIECES");
        for (int n = 0; n <= 7; n++) {
            TinStencils x = pieces(n);
            DUE.is("pieces", x.falls(0, -1, 0), n);
            DUE.is("cheapest of " + n, x.cheapest(0), n);
            DUE.is("made of " + n, x.made(0), n);
        }
        DUE.says("NONE: more than 7 PIECES");
        for (int n = 8; n <= 9; n++) {
            DUE.is("cheapest of " + n, pieces(n).cheapest(0), -1);
            DUE.is("made of " + n, pieces(n).made(0), -1);
        }
    }

    private static void cheapestForNothing() {
        DUE.says("CHEAPEST: the least worth of THROUGH squares made to STAY so that all TIN hangs");
        DUE.is("nothing falls", Due.with("plate 3 3;").cheapest(0), 0);
        DUE.is("worth nothing", Due.with(RING + "worth 0 0 to 4 4 0;").cheapest(0), 0);
        DUE.is("made counts squares", Due.with(RING + "worth 0 0 to 4 4 0;").made(0), 1);
        DUE.is("a way round", Due.with(RING + "worth 0 0 to 4 4 9;worth 1 2 to 1 2 4;").cheapest(0), 4);
        TinStencils rim = Due.with(Due.drawn("...", ".#.", "...") + "hold east;worth 0 0 to 2 2 5;");
        DUE.is("to the rim of a side it's held by", rim.cheapest(0), 5);
        TinStencils other = Due.with(Due.drawn(".#.", "...", "...") + "hold south;");
        DUE.is("the other rims are none", other.cheapest(0), 2);
    }

    private static void cheapestAtMost() {
        DUE.says("CHEAPEST at its most");
        StringBuilder text = new StringBuilder("plate 20 20;hold west;worth 0 0 to 19 19 99;");
        for (int y = 0; y < 20; y++) {
            text.append("row " + y + " " + "t".repeat(20) + ";");
        }
        TinStencils x = Due.with(text.toString());
        x.change(0, 19, 19, false);
        DUE.is("across the sheet", x.cheapest(0), 19 * 99);
        DUE.is("cut rather", x.made(0), 1);
        for (int k = 0; k < 6; k++) {
            x.change(0, 19, 3 * k, false);
        }
        DUE.is("seven", x.falls(0, -1, 0), 7);
        DUE.is("one way across, and ways between them", x.cheapest(0), (19 + 5 * 2 + 3) * 99);
    }

    private static void madeByCutting() {
        DUE.says("MADE: the fewest squares changed, THROUGH to STAY, or all of a PIECE to THROUGH");
        DUE.is("nothing falls", Due.with("plate 3 3;").made(0), 0);
        TinStencils x = Due.with(Due.drawn(".....", ".....", ".##..", ".....", ".....") + "hold north;");
        DUE.is("two either way", x.made(0), 2);
        x.change(0, 3, 2, false);
        DUE.is("join three", x.made(0), 2);
        x.change(0, 3, 2, true);
        x.change(0, 2, 2, true);
        DUE.is("cut one", x.made(0), 1);
        TinStencils both = Due.with(Due.drawn("......", "......", ".###..", "......", "......", "....#.", "......") + "hold north;");
        DUE.is("one joined, one cut", both.made(0), 3);
        TinStencils first = Due.with(Due.drawn("......", "......", "......", ".....#", ".####.", ".####.", "......") + "hold east south;");
        DUE.is("eight joined by one", first.made(0), 1);
        first.change(0, 1, 1, false);
        DUE.is("one more cut", first.made(0), 2);
        first.change(0, 2, 1, false);
        first.change(0, 3, 1, false);
        first.change(0, 4, 1, false);
        DUE.is("four joined by one", first.made(0), 2);
        TinStencils sizes = Due.with(Due.drawn("......", "#.....", "......", "...###", "......") + "hold south;");
        DUE.is("the first cut, the second joined", sizes.made(0), 2);
    }

    private static void withoutBridges() {
        DUE.says("CHEAPEST: no BRIDGES");
        TinStencils x = Due.with(RING + "worth 0 0 to 4 4 3;bridge told 2 1;");
        DUE.is("hangs by it", x.judge(0, 0), 1);
        DUE.is("as if it weren't", x.cheapest(0), 3);
        x.put(0, 0, false);
        DUE.is("out", x.cheapest(0), 3);
    }

    private static void joiningOfNone() {
        DUE.says("NONE: none such (cheapest, made)");
        TinStencils x = Due.with("plate 1 1;");
        for (int s : new int[] {-1, 1, 5, 6, LOW, HIGH}) {
            DUE.is("cheapest(" + s + ")", x.cheapest(s), -1);
            DUE.is("made(" + s + ")", x.made(s), -1);
        }
    }

    private static void choice(String about, TinStencils x, boolean twice, int set, int seen) {
        DUE.is(about + ": set", x.choice(0, twice, 0), set);
        DUE.is(about + ": seen", x.choice(0, twice, 1), seen);
        DUE.is(about + ": how many", x.choice(0, twice, 2), set < 0 ? -1 : Integer.bitCount(set));
    }

    private static void choiceLeastSeen() {
        DUE.says("CHOICE: the one with the least SEEN");
        TinStencils x = Due.with(RING + "worth 2 1 to 2 1 3;bridge told 2 1;bridge straight 1 2 west 1;");
        choice("the cheaper", x, false, 2, 1);
        TinStencils two = Due.with(Due.drawn("###", "...", "...", "#.#") + "hold north;worth 0 1 to 2 2 0;worth 0 1 to 0 2 9;"
            + "bridge told 0 1,0 2;bridge told 2 1,2 2;bridge told 1 3;");
        choice("more bridges, less seen", two, false, 6, 1);
    }

    private static void choiceFewest() {
        DUE.says("of several with the fewest");
        TinStencils x = Due.with(RING + "worth 0 0 to 4 4 0;bridge told 1 1;bridge told 1 2;bridge told 2 1;");
        choice("all seen alike", x, false, 2, 0);
        TinStencils one = Due.with(Due.drawn("#", ".", ".", "#") + "hold north;bridge told 0 1;bridge told 0 2;bridge told 0 1,0 2;");
        choice("two or one", one, false, 4, 2);
    }

    private static void choiceLeastBits() {
        DUE.says("of these the least bits");
        TinStencils x = Due.with(RING + "bridge told 2 3;bridge told 3 2;bridge told 2 1;");
        choice("one of three", x, false, 1, 1);
        choice("two of three", x, true, 3, 2);
    }

    private static void choiceOfNoBridges() {
        DUE.says("of all sets of BRIDGES (the empty one, too)");
        choice("nothing falls", Due.with("plate 3 3;bridge told 0 0;"), false, 0, 0);
        choice("nothing falls, twice", Due.with("plate 3 3;bridge told 0 0;"), true, 0, 0);
        choice("no bridges", Due.with("plate 3 3;"), false, 0, 0);
        choice("no bridges, twice", Due.with("plate 3 3;"), true, 0, 0);
    }

    private static void choiceOfTwelve() {
        DUE.says("all sets of BRIDGES (of twelve)");
        StringBuilder text = new StringBuilder("plate 1 14;hold north;worth 0 0 to 0 13 2;");
        for (int k = 1; k <= 12; k++) {
            text.append("row " + k + " t;bridge told 0 " + k + ";");
        }
        choice("all of them", Due.with(text.toString()), false, 4095, 24);
        choice("none twice", Due.with(text.toString()), true, -1, -1);
    }

    private static void twice() {
        DUE.says("TWICE: of those with which it hangs without any one of them, too");
        choice("one isn't enough", Due.with(RING + "bridge told 2 1;"), true, -1, -1);
        choice("two are", Due.with(RING + "bridge told 2 1;bridge told 2 1;"), true, 3, 1);
        TinStencils chain = Due.with(Due.drawn("#", ".", "#", ".", "#") + "hold north;bridge told 0 1;bridge told 0 3;bridge told 0 1,0 3;");
        choice("each twice", chain, true, 7, 2);
        TinStencils falling = Due.with(Due.drawn("#.", "..", "#.") + "hold north;bridge told 0 1;bridge told 0 1;bridge told 1 2;");
        choice("what is added must hang, too", falling, true, 3, 1);
    }

    private static void choiceOfNone() {
        DUE.says("NONE: none such, none does (choice)");
        TinStencils x = Due.with(RING + "bridge told 1 1;");
        choice("none does", x, false, -1, -1);
        choice("none does", x, true, -1, -1);
        choice("none there", Due.with(RING), false, -1, -1);
        TinStencils full = Due.with("plate 2 2;");
        for (int what : new int[] {-1, 3, LOW, HIGH}) {
            DUE.is("choice(0, false, " + what + ")", full.choice(0, false, what), -1);
        }
        for (int s : new int[] {-1, 1, 6, LOW, HIGH}) {
            DUE.is("choice(" + s + ", true, 0)", full.choice(s, true, 0), -1);
        }
    }

    private static void spoilt() {
        DUE.says("SPOILT by one: how many squares more of TIN don't hang without it than with it");
        TinStencils x = Due.with(Due.drawn("#", ".", "#", ".", "#") + "hold north;bridge told 0 1;bridge told 0 3;bridge told 0 0;");
        DUE.is("all below it", x.spoilt(0, 0), 3);
        DUE.is("one below it", x.spoilt(0, 1), 1);
        DUE.is("it holds nothing", x.spoilt(0, 2), 0);
        x.put(0, 1, false);
        DUE.is("one falls already", x.spoilt(0, 0), 1);
        TinStencils most = Due.with("plate 20 20;hold north;row 0 " + "t".repeat(20) + ";bridge told 19 0;");
        DUE.is("nearly all", most.spoilt(0, 0), 380);
    }

    private static void spoiltOfNone() {
        DUE.says("SPOILT by a BRIDGE that's IN. NONE: none such.");
        TinStencils x = Due.with(RING + "bridge told 2 1;bridge told 1 2;");
        x.put(0, 1, false);
        DUE.is("in", x.spoilt(0, 0), 1);
        DUE.is("not in", x.spoilt(0, 1), -1);
        for (int b : new int[] {-1, 2, 12, 32, LOW, HIGH}) {
            DUE.is("spoilt(0, " + b + ")", x.spoilt(0, b), -1);
        }
        for (int s : new int[] {-1, 1, 6, LOW, HIGH}) {
            DUE.is("spoilt(" + s + ", 0)", x.spoilt(s, 0), -1);
        }
    }
}
