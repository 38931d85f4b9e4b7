/** Each sentence about squares, what hangs, falls and sags, with a test of its own: promises 5 to 9, 16 and 17. */
public final class SheetEdgesTest {
    private static final Due DUE = new Due();
    private static final int LOW = Integer.MIN_VALUE;
    private static final int HIGH = Integer.MAX_VALUE;
    private static final String[] SIDES = {"north", "east", "south", "west"};
    private static final String CUT = "t".repeat(20);

    public static void main(String[] args) {
        atFirst();
        toldAgain();
        rowsFirstSquares();
        putOutside();
        putLeavesWhatStays();
        putTurned();
        putGreatest();
        holdAlone();
        worthOfARectangle();
        sheetOfNone();
        squareOfNone();
        rims();
        sideBySide();
        rowsDontWrap();
        columnsDontWrap();
        piecesInOrder();
        mostPieces();
        fallsOfNone();
        gapOfNone();
        gapLeastAndMost();
        gapBesideTheRim();
        necks();
        mostTongue();
        tonguesAboveTheBrush();
        tonguesOfNone();
        sagWithout();
        sagAboveANumber();
        sagOfNone();
        corners();
        nothingAtAll();
        DUE.end();
    }

    /** A sheet of 20 to 20, all cut through. */
    private static String allCut() {
        StringBuilder text = new StringBuilder("plate 20 20;");
        for (int y = 0; y < 20; y++) {
            text.append("row " + y + " " + CUT + ";");
        }
        return text.toString();
    }

    private static void drawn(String about, TinStencils x, int what, String... rows) {
        for (int y = 0; y < rows.length; y++) {
            for (int a = 0; a < rows[y].length(); a++) {
                boolean marked = rows[y].charAt(a) == '#';
                DUE.is(about + " at " + a + " " + y, x.square(0, a, y, what), marked ? 1 : 0);
            }
        }
    }

    private static void atFirst() {
        DUE.says("At first all squares STAY, worth 1; held by all four sides; brush 0, wear 0.");
        TinStencils x = Due.with("plate 3 2;");
        int[] want = {3, 2, 0, 0, 0, 0, 15, 0, 0, 6};
        for (int what = 0; what < want.length; what++) {
            DUE.is("sheet(0, " + what + ")", x.sheet(0, what), want[what]);
        }
        drawn("through", x, 0, "...", "...");
        drawn("tin", x, 1, "###", "###");
        drawn("worth", x, 2, "###", "###");
    }

    private static void toldAgain() {
        DUE.says("At first (told again, nothing is left of the text that was)");
        TinStencils x = Due.with("plate 3 2;row 0 ttt;row 1 ttt;shape a t;hold north;worth 0 0 to 2 1 9;brush 9;wear 9;bridge told 0 0;");
        DUE.is("plate", Due.tell(x, 0, "plate 3 2;"), 0);
        int[] want = {3, 2, 0, 0, 0, 0, 15, 0, 0, 6};
        for (int what = 0; what < want.length; what++) {
            DUE.is("sheet(0, " + what + ")", x.sheet(0, what), want[what]);
        }
        drawn("worth", x, 2, "###", "###");
        DUE.is("plate", Due.tell(x, 0, "plate 3 2;row 0 ttt;bridge straight 2 0 west 1;"), 2);
        drawn("tin", x, 1, "..#", "###");
        DUE.is("bridge", x.bridge(0, 0, 1), 1);
        TinStencils often = new TinStencils();
        for (int k = 0; k < 3; k++) {
            String full = "plate 3 2;shape a tt tt;shape b t;hold north;worth 0 0 to 2 1 9;brush 9;wear 9;bridge told 0 0,1 0 hidden;row 1 tt;";
            DUE.is("a full text", Due.tell(often, 0, full), 8);
            DUE.is("a short text", Due.tell(often, 0, "plate 3 2;shape a t;bridge told 2 1;"), 2);
            int[] due = {3, 2, 2, 1, 1, 1, 15, 0, 0, 6};
            for (int what = 0; what < due.length; what++) {
                DUE.is("told over, sheet(0, " + what + ")", often.sheet(0, what), due[what]);
            }
            drawn("worth told over", often, 2, "###", "###");
            DUE.is("hidden told over", often.bridge(0, 0, 3), 0);
            DUE.is("squares told over", often.bridge(0, 0, 1), 1);
            often.change(0, 0, 0, true);
            DUE.is("the shape told over", often.read(0, 0, 1), 1);
            DUE.is("is one square", often.read(0, 0, 0), 0);
        }
    }

    private static void rowsFirstSquares() {
        DUE.says("\"row\": of row Y the first squares: THROUGH for t, STAY for s");
        drawn("through", Due.with("plate 4 2;row 0 t;row 1 stst;"), 0, "#...", ".#.#");
        drawn("told over", Due.with("plate 4 2;row 0 tttt;row 0 ss;row 1 tttt;row 1 ssss;"), 0, "..##", "....");
        TinStencils wide = Due.with("plate 20 20;row 19 " + CUT + ";row 0 " + "s".repeat(19) + "t;");
        DUE.is("tin", wide.sheet(0, 9), 379);
        DUE.is("the last of row 0", wide.square(0, 19, 0, 0), 1);
        DUE.is("the last of all", wide.square(0, 19, 19, 0), 1);
    }

    private static void putOutside() {
        DUE.says("those outside the sheet don't count");
        String shape = "plate 3 3;shape a ttt ttt ttt;";
        drawn("upper left", Due.with(shape + "put a 0 0;"), 0, "###", "###", "###");
        drawn("right", Due.with(shape + "put a 2 0;"), 0, "..#", "..#", "..#");
        drawn("below", Due.with(shape + "put a 0 2;"), 0, "...", "...", "###");
        for (int turns = 0; turns < 4; turns++) {
            drawn("corner", Due.with(shape + "put a 2 2 turned " + turns + ";"), 0, "...", "...", "..#");
        }
        TinStencils wide = Due.with("plate 20 20;shape a tttttttt tttttttt;put a 19 0;put a 13 19;");
        DUE.is("none comes in on the other side", wide.sheet(0, 9), 400 - 2 - 7);
        DUE.is("row 1's first", wide.square(0, 0, 1, 0), 0);
    }

    private static void putLeavesWhatStays() {
        DUE.says("its s change nothing");
        drawn("s over t", Due.with("plate 2 2;row 0 tt;shape a ss st;put a 0 0;"), 0, "##", ".#");
    }

    private static void putTurned() {
        DUE.says("each brings what is at x, y of one so high to that less 1 less y, x");
        String shape = "plate 3 3;shape a tts sst;put a 0 0";
        drawn("not turned", Due.with(shape + ";"), 0, "##.", "..#", "...");
        drawn("turned 0", Due.with(shape + " turned 0;"), 0, "##.", "..#", "...");
        drawn("turned 1", Due.with(shape + " turned 1;"), 0, ".#.", ".#.", "#..");
        drawn("turned 2", Due.with(shape + " turned 2;"), 0, "#..", ".##", "...");
        drawn("turned 3", Due.with(shape + " turned 3;"), 0, ".#.", "#..", "#..");
    }

    private static void putGreatest() {
        DUE.says("\"put\": a shape (of 8 words of 8, with others behind it)");
        String eight = " tttttttt".repeat(8);
        for (int turns = 0; turns < 4; turns++) {
            TinStencils x = Due.with("plate 20 20;shape a" + eight + ";shape b" + eight + ";put a 3 5 turned " + turns + ";");
            DUE.is("tin", x.sheet(0, 9), 400 - 64);
            DUE.is("its first", x.square(0, 3, 5, 0), 1);
            DUE.is("its last", x.square(0, 10, 12, 0), 1);
            DUE.is("below it", x.square(0, 3, 13, 0), 0);
        }
        StringBuilder all = new StringBuilder("plate 20 20;");
        for (char c = 'a'; c <= 'h'; c++) {
            all.append("shape " + c + eight + ";");
        }
        DUE.is("the eighth", Due.with(all + "put h 0 0;").sheet(0, 9), 400 - 64);
        DUE.says("a shape is as it's told, whatever was told ahead");
        TinStencils again = new TinStencils();
        for (int k = 0; k < 4; k++) {
            DUE.is("great ones", Due.tell(again, 0, all.toString()), 8);
            DUE.is("great ones", Due.tell(again, 1, all.toString()), 8);
            DUE.is("a small one", Due.tell(again, 0, "plate 20 20;shape a tt;put a 0 0;put a 9 9 turned 1;"), 3);
            DUE.is("tin", again.sheet(0, 9), 396);
            DUE.is("below it", again.square(0, 0, 1, 0), 0);
            DUE.is("great ones", Due.tell(again, 0, all.toString()), 8);
        }
    }

    private static void holdAlone() {
        DUE.says("\"hold\": by these sides alone");
        DUE.is("one", Due.with("plate 1 1;hold east;").sheet(0, 6), 2);
        DUE.is("told over", Due.with("plate 1 1;hold east;hold west;").sheet(0, 6), 8);
        DUE.is("twice the same", Due.with("plate 1 1;hold south south;").sheet(0, 6), 4);
        DUE.is("all", Due.with("plate 1 1;hold west south east north;").sheet(0, 6), 15);
    }

    private static void worthOfARectangle() {
        DUE.says("\"worth\": of a rectangle");
        drawn("one square", Due.with("plate 3 2;worth 0 0 to 2 1 0;worth 1 1 to 1 1 1;"), 2, "...", ".#.");
        drawn("the last", Due.with("plate 3 2;worth 0 0 to 2 1 0;worth 2 1 to 2 1 1;"), 2, "...", "..#");
        drawn("all but", Due.with("plate 3 2;worth 0 0 to 1 0 0;"), 2, "..#", "###");
        TinStencils x = Due.with("plate 20 20;worth 19 0 to 19 19 5;");
        DUE.is("the last column", x.square(0, 19, 19, 2) + x.square(0, 19, 0, 2), 10);
        DUE.is("the first column", x.square(0, 0, 19, 2) + x.square(0, 0, 1, 2), 2);
    }

    private static void sheetOfNone() {
        DUE.says("NONE: none such (sheet)");
        TinStencils x = Due.with("plate 1 1;");
        for (int s : new int[] {-1, 1, 5, 6, LOW, HIGH}) {
            for (int what = 0; what <= 9; what++) {
                DUE.is("sheet(" + s + ", " + what + ")", x.sheet(s, what), -1);
            }
        }
        for (int what : new int[] {-1, 10, LOW, HIGH}) {
            DUE.is("sheet(0, " + what + ")", x.sheet(0, what), -1);
        }
    }

    private static void squareOfNone() {
        DUE.says("NONE: none such (square)");
        TinStencils x = Due.with("plate 3 2;");
        int[][] none = {{-1, 0}, {3, 0}, {0, -1}, {0, 2}, {3, 1}, {2, 2}, {19, 0}, {0, 19}, {20, 0}, {0, 20}, {32, 0}, {LOW, 0}, {HIGH, 0},
            {0, LOW}, {0, HIGH}};
        for (int what = 0; what <= 5; what++) {
            for (int[] n : none) {
                DUE.is("square(0, " + n[0] + ", " + n[1] + ", " + what + ")", x.square(0, n[0], n[1], what), -1);
            }
            for (int s : new int[] {-1, 1, 6, LOW, HIGH}) {
                DUE.is("square(" + s + ", 0, 0, " + what + ")", x.square(s, 0, 0, what), -1);
            }
            DUE.is("the last one there", x.square(0, 2, 1, what), new int[] {0, 1, 1, 1, -1, 0}[what]);
        }
        for (int what : new int[] {-1, 6, LOW, HIGH}) {
            DUE.is("square(0, 0, 0, " + what + ")", x.square(0, 0, 0, what), -1);
        }
    }

    private static void rims() {
        DUE.says("TIN on the rim of a side it's held by");
        for (int size : new int[] {3, 20}) {
            for (int side = 0; side < 4; side++) {
                TinStencils x = Due.with("plate " + size + " " + size + ";hold " + SIDES[side] + ";");
                for (int y = 0; y < size; y++) {
                    for (int a = 0; a < size; a++) {
                        x.change(0, a, y, true);
                    }
                }
                int[][] on = {{1, 0}, {size - 1, 1}, {1, size - 1}, {0, 1}};
                for (int k = 0; k < 4; k++) {
                    x.change(0, on[k][0], on[k][1], false);
                    DUE.is("held " + side + " on rim " + k, x.square(0, on[k][0], on[k][1], 3), k == side ? 1 : 0);
                    x.change(0, on[k][0], on[k][1], true);
                }
                x.change(0, 1, 1, false);
                DUE.is("within", x.square(0, 1, 1, 3), 0);
            }
        }
        DUE.is("one square is on every rim", Due.with("plate 1 1;hold west;").square(0, 0, 0, 3), 1);
        DUE.is("what isn't tin doesn't hang", Due.with("plate 1 1;row 0 t;").square(0, 0, 0, 3), 0);
    }

    private static void sideBySide() {
        DUE.says("joined by TIN side by side");
        String text = Due.drawn("#..", ".#.", "...");
        TinStencils aslant = Due.with(text + "hold north;");
        DUE.is("aslant", aslant.square(0, 1, 1, 3), 0);
        aslant.change(0, 1, 0, false);
        DUE.is("beside", aslant.square(0, 1, 1, 3), 1);
        TinStencils bridged = Due.with(text + "hold north;bridge told 0 1;");
        DUE.is("by a bridge", bridged.square(0, 1, 1, 3), 1);
        bridged.put(0, 0, false);
        DUE.is("by a bridge that's out", bridged.square(0, 1, 1, 3), 0);
    }

    private static void rowsDontWrap() {
        DUE.says("side by side: a row's last square isn't beside the next row's first");
        TinStencils x = Due.with(allCut() + "hold north;");
        x.change(0, 19, 0, false);
        x.change(0, 0, 1, false);
        DUE.is("doesn't hang", x.square(0, 0, 1, 3), 0);
        DUE.is("no neck", x.tongues(0, 0), 0);
        DUE.is("pieces", x.falls(0, -1, 0), 1);
        DUE.is("its gap", x.falls(0, 0, 3), 19);
        DUE.is("cheapest", x.cheapest(0), 1);
        TinStencils two = Due.with(allCut() + "hold north;");
        two.change(0, 19, 10, false);
        two.change(0, 0, 11, false);
        DUE.is("two pieces", two.falls(0, -1, 0), 2);
        DUE.is("sag", two.sag(0, 19, 10, 0, 0), 0);
        TinStencils holes = Due.with("plate 20 3;row 0 " + "s".repeat(19) + "t;row 1 t;");
        DUE.is("two holes", holes.hole(0, -1, 0), 2);
    }

    private static void columnsDontWrap() {
        DUE.says("side by side: the lowest row isn't beside the highest");
        TinStencils x = Due.with(allCut() + "hold north;");
        x.change(0, 5, 0, false);
        x.change(0, 5, 19, false);
        DUE.is("doesn't hang", x.square(0, 5, 19, 3), 0);
        DUE.is("its gap", x.falls(0, 0, 3), 18);
        DUE.is("no neck", x.tongues(0, 1), 0);
        TinStencils holes = Due.with("plate 3 20;row 0 st;row 19 st;");
        DUE.is("two holes", holes.hole(0, -1, 0), 2);
    }

    private static void piecesInOrder() {
        DUE.says("PIECES: by their first squares (y, then x)");
        TinStencils x = Due.with(Due.drawn(".......", "....#..", ".#..#..", ".####..", ".......", ".#.#...", "......."));
        int[][] want = {{7, 4, 1}, {1, 1, 5}, {1, 3, 5}};
        DUE.is("pieces", x.falls(0, -1, 0), 3);
        for (int k = 0; k < 3; k++) {
            for (int what = 0; what < 3; what++) {
                DUE.is("falls(0, " + k + ", " + what + ")", x.falls(0, k, what), want[k][what]);
            }
        }
        DUE.is("the piece of a later square", x.square(0, 1, 2, 4), 0);
        DUE.is("the last piece", x.square(0, 3, 5, 4), 2);
    }

    private static void mostPieces() {
        DUE.says("How many PIECES: none, and as many as there can be");
        DUE.is("none", Due.with("plate 3 3;").falls(0, -1, 0), 0);
        DUE.is("no piece 0", Due.with("plate 3 3;").falls(0, 0, 0), -1);
        StringBuilder text = new StringBuilder("plate 20 20;hold north;row 0 " + CUT + ";");
        for (int y = 1; y < 20; y++) {
            text.append("row " + y + " " + (y % 2 == 0 ? "st" : "ts").repeat(10) + ";");
        }
        TinStencils x = Due.with(text.toString());
        DUE.is("a board", x.falls(0, -1, 0), 190);
        DUE.is("the last of them", x.falls(0, 189, 2), 19);
        DUE.is("no more", x.falls(0, 190, 0), -1);
        DUE.is("holes", x.hole(0, -1, 0), 181);
        DUE.is("cheapest", x.cheapest(0), -1);
        DUE.is("made", x.made(0), -1);
        DUE.is("cut", x.cut(0, 0), -1);
    }

    private static void fallsOfNone() {
        DUE.says("NONE: none such (falls)");
        TinStencils x = Due.with(Due.drawn("...", ".#.", "..."));
        for (int what = 1; what <= 4; what++) {
            DUE.is("falls(0, NONE, " + what + ")", x.falls(0, -1, what), -1);
        }
        int[][] none = {{0, -1, -1}, {0, -2, 0}, {0, 1, 0}, {0, 1, 3}, {0, LOW, 0}, {0, HIGH, 0}, {0, HIGH, 3}, {0, 0, -1}, {0, 0, 4}, {0, 0, LOW},
            {0, 0, HIGH}, {1, -1, 0}, {-1, -1, 0}, {6, -1, 0}, {1, 0, 3}, {LOW, 0, 0}, {HIGH, 0, 0}};
        for (int[] n : none) {
            DUE.is("falls(" + n[0] + ", " + n[1] + ", " + n[2] + ")", x.falls(n[0], n[1], n[2]), -1);
        }
    }

    private static void gapOfNone() {
        DUE.says("GAP (NONE: no other TIN can be come to)");
        DUE.is("alone", Due.with(Due.drawn("...", ".#.", "...")).falls(0, 0, 3), -1);
        DUE.is("all of a sheet", Due.with(Due.drawn(".#.", ".#.") + "hold west;").falls(0, 0, 3), -1);
        DUE.is("one square", Due.with("plate 2 1;hold west;row 0 t;").falls(0, 0, 3), -1);
    }

    private static void gapLeastAndMost() {
        DUE.says("GAP of a PIECE: the least number of THROUGH squares between it and other TIN");
        TinStencils x = Due.with(allCut() + "hold north;");
        x.change(0, 0, 19, false);
        x.change(0, 19, 1, false);
        DUE.is("from corner to corner", x.falls(0, 0, 3), 36);
        DUE.is("and back", x.falls(0, 1, 3), 36);
        x.change(0, 1, 18, false);
        DUE.is("aslant", x.falls(0, 2, 3), 1);
        DUE.is("both ways", x.falls(0, 1, 3), 1);
        DUE.is("the nearest counts", x.falls(0, 0, 3), 34);
    }

    private static void gapBesideTheRim() {
        DUE.says("GAP: to TIN, not to the rim");
        TinStencils x = Due.with(Due.drawn(".....", ".#...", ".....", "....#"));
        DUE.is("piece", x.falls(0, -1, 0), 1);
        DUE.is("to what hangs", x.falls(0, 0, 3), 4);
    }

    private static void necks() {
        DUE.says("NECK: a TIN square that hangs, without which others that hang don't");
        TinStencils x = Due.with(Due.drawn("#..", "#..", "#.#") + "hold north;");
        int[][] want = {{2, 0, 0}, {1, 0, 0}, {0, 0, 0}};
        for (int y = 0; y < 3; y++) {
            for (int a = 0; a < 3; a++) {
                DUE.is("tongue at " + a + " " + y, x.square(0, a, y, 5), want[y][a]);
            }
        }
        DUE.is("necks", x.tongues(0, 0), 2);
        TinStencils ring = Due.with(Due.drawn("###", "#.#", "###") + "hold west;");
        DUE.is("a ring has none", ring.tongues(0, 0), 0);
        TinStencils alone = Due.with("plate 1 1;");
        DUE.is("one square is none", alone.square(0, 0, 0, 5), 0);
    }

    private static void mostTongue() {
        DUE.says("its TONGUE: how many (at the most)");
        TinStencils x = Due.with("plate 20 20;hold north;row 0 s" + "t".repeat(19) + ";");
        DUE.is("all but itself", x.square(0, 0, 0, 5), 380);
        DUE.is("greatest", x.tongues(0, 1), 380);
        DUE.is("the one below it", x.square(0, 0, 1, 5), 379);
        DUE.is("necks", x.tongues(0, 0), 2);
    }

    private static void tonguesAboveTheBrush() {
        DUE.says("TONGUES above the brush");
        for (int brush = 0; brush <= 5; brush++) {
            TinStencils x = Due.with("plate 5 1;hold west;brush " + brush + ";");
            DUE.is("above " + brush, x.tongues(0, 2), Math.max(0, 4 - brush));
        }
        DUE.is("above 400", Due.with("plate 20 20;hold north;row 0 s" + "t".repeat(19) + ";brush 400;").tongues(0, 2), 0);
        DUE.is("above 379", Due.with("plate 20 20;hold north;row 0 s" + "t".repeat(19) + ";brush 379;").tongues(0, 2), 1);
        DUE.is("above 380", Due.with("plate 20 20;hold north;row 0 s" + "t".repeat(19) + ";brush 380;").tongues(0, 2), 0);
    }

    private static void tonguesOfNone() {
        DUE.says("NONE: none such (tongues)");
        TinStencils x = Due.with("plate 2 1;hold west;");
        for (int what : new int[] {-1, 3, LOW, HIGH}) {
            DUE.is("tongues(0, " + what + ")", x.tongues(0, what), -1);
        }
        for (int s : new int[] {-1, 1, 6, LOW, HIGH}) {
            DUE.is("tongues(" + s + ", 0)", x.tongues(s, 0), -1);
        }
        TinStencils cut = Due.with("plate 1 1;row 0 t;");
        for (int what = 0; what < 3; what++) {
            DUE.is("without tin", cut.tongues(0, what), 0);
        }
    }

    private static void sagWithout() {
        DUE.says("SAG: the greatest TONGUE of other NECKS (0 without)");
        DUE.is("one square", Due.with("plate 1 1;").sag(0, 0, 0, 0, 0), 0);
        DUE.is("two squares", Due.with("plate 2 1;").sag(0, 0, 0, 0, 0), 0);
        DUE.is("three from an end", Due.with("plate 3 1;").sag(0, 0, 0, 0, 0), 1);
        DUE.is("three from the middle", Due.with("plate 3 1;").sag(0, 1, 0, 0, 0), 0);
        DUE.is("a full sheet", Due.with("plate 20 20;").sag(0, 19, 19, 0, 0), 0);
        DUE.says("SAG: held there alone (no sides)");
        TinStencils x = Due.with(Due.drawn("#####", "....#", "#...#"));
        DUE.is("the sides don't hold", x.sag(0, 0, 0, 0, 0), 5);
        DUE.is("what isn't joined is nothing to it", x.sag(0, 0, 2, 0, 0), 0);
    }

    private static void sagAboveANumber() {
        DUE.says("how many TONGUES are above n");
        TinStencils x = Due.with("plate 6 1;");
        int[][] want = {{LOW, 4}, {-1, 4}, {0, 4}, {1, 3}, {3, 1}, {4, 0}, {HIGH, 0}};
        for (int[] w : want) {
            DUE.is("above " + w[0], x.sag(0, 0, 0, w[0], 1), w[1]);
        }
        DUE.is("n is nothing to the greatest", x.sag(0, 0, 0, 400, 0), 4);
        DUE.is("not its own", Due.with("plate 3 3;row 0 ttt;row 2 ttt;").sag(0, 1, 1, 0, 1), 0);
        DUE.is("not its own, at the end", Due.with("plate 3 1;").sag(0, 2, 0, 0, 1), 1);
    }

    private static void sagOfNone() {
        DUE.says("NONE: none such, it isn't TIN (sag)");
        TinStencils x = Due.with(Due.drawn("#.", "##") + "bridge told 1 0;");
        DUE.is("a bridge is tin", x.sag(0, 1, 0, 0, 0), 0);
        x.put(0, 0, false);
        for (int what = 0; what < 2; what++) {
            DUE.is("it isn't tin", x.sag(0, 1, 0, 0, what), -1);
            int[][] none = {{0, -1, 0}, {0, 2, 0}, {0, 0, -1}, {0, 0, 2}, {1, 0, 0}, {-1, 0, 0}, {6, 0, 0}, {0, HIGH, 0}, {0, LOW, 0}, {0, 0, HIGH},
                {0, 0, LOW}, {LOW, 0, 0}, {HIGH, 0, 0}, {0, 32, 0}};
            for (int[] n : none) {
                DUE.is("sag(" + n[0] + ", " + n[1] + ", " + n[2] + ", 0, " + what + ")", x.sag(n[0], n[1], n[2], 0, what), -1);
            }
        }
        for (int what : new int[] {-1, 2, LOW, HIGH}) {
            DUE.is("sag(0, 0, 0, 0, " + what + ")", x.sag(0, 0, 0, 0, what), -1);
        }
    }

    private static void corners() {
        DUE.says("corners that are TIN (0 upper left, 1 upper right, 2 lower right, 3 lower left)");
        String[][] sheets = {{"#..", "...", "..."}, {"..#", "...", "..."}, {"...", "...", "..#"}, {"...", "...", "#.."}};
        for (int k = 0; k < 4; k++) {
            DUE.is("only " + k, Due.with(Due.drawn(sheets[k])).corner(0), k);
        }
        DUE.says("the one with the least SAG (of several the least)");
        DUE.is("all alike", Due.with("plate 20 20;").corner(0), 0);
        DUE.is("0 is out, 1 to 3 alike", Due.with(Due.drawn(".##", "###", "###")).corner(0), 1);
        DUE.is("3 is less", Due.with(Due.drawn("###", "..#", "#..")).corner(0), 3);
        DUE.is("2 and 3 alike and less", Due.with(Due.drawn("###", "...", "#.#")).corner(0), 2);
        DUE.is("one wide: 0 and 1 are one square", Due.with("plate 1 3;").corner(0), 0);
        DUE.is("one square", Due.with("plate 1 1;").corner(0), 0);
        DUE.says("NONE: none such (corner)");
        DUE.is("no corner is tin", Due.with(Due.drawn(".#.", "###", ".#.")).corner(0), -1);
        TinStencils bridged = Due.with(Due.drawn(".#.", "###", ".#.") + "bridge told 2 2;");
        DUE.is("a bridge is", bridged.corner(0), 2);
        for (int s : new int[] {-1, 1, 6, LOW, HIGH}) {
            DUE.is("corner(" + s + ")", bridged.corner(s), -1);
        }
    }

    private static void nothingAtAll() {
        DUE.says("a SHEET without TIN");
        TinStencils x = Due.with(allCut());
        DUE.is("tin", x.sheet(0, 9), 0);
        DUE.is("all of it hangs", x.judge(0, 0), 1);
        DUE.is("pieces", x.falls(0, -1, 0), 0);
        DUE.is("cheapest", x.cheapest(0), 0);
        DUE.is("made", x.made(0), 0);
        DUE.is("choice", x.choice(0, true, 0), 0);
        DUE.is("corner", x.corner(0), -1);
        DUE.is("holes", x.hole(0, -1, 0), 1);
        DUE.is("its squares", x.hole(0, 0, 0), 400);
        DUE.is("plan", x.cut(0, 0), 0);
        DUE.is("plan's hole", x.cut(0, 10), 0);
        DUE.is("alike itself", x.alike(0, 0, 1, 0, 0), 400);
    }
}
