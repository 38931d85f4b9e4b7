/** Promise 25: a sheet read back into its shapes. */
public final class ReadTest {
    private static final Due DUE = new Due();

    public static void main(String[] args) {
        noShapes();
        below();
        ties();
        fewest();
        tooWide();
        ways();
        wrong();
        DUE.end();
    }

    private static void read(TinStencils x, int y, int... want) {
        DUE.is("cost at " + y, x.read(0, y, 0), want[0]);
        DUE.is("ways at " + y, x.read(0, y, 2), want[1]);
        int number = (want.length - 2) / 2;
        DUE.is("shapes at " + y, x.read(0, y, 1), number);
        for (int k = 0; k < number; k++) {
            DUE.is("shape " + k, x.read(0, y, 10 + k), want[2 + 2 * k]);
            DUE.is("column " + k, x.read(0, y, 40 + k), want[3 + 2 * k]);
        }
        DUE.is("no more shapes", x.read(0, y, 10 + number), -1);
        DUE.is("no more columns", x.read(0, y, 40 + number), -1);
    }

    private static void noShapes() {
        TinStencils x = Due.with("plate 3 12;row 0 t;row 7 st;row 8 sst;row 11 ttt;");
        read(x, 0, 2, 1);
        read(x, 1, 2, 1);
        read(x, 4, 5, 1);
        read(x, 11, 3, 1);
    }

    private static void below() {
        TinStencils x = Due.with("plate 2 3;shape a ts ts ts;row 0 t;row 1 t;row 2 t;");
        read(x, 0, 0, 1, 0, 0);
        read(x, 1, 1, 1, 0, 0);
        // two of the shape's three are below the sheet: leaving the column out is cheaper
        read(x, 2, 1, 1);
        TinStencils bridged = Due.with("plate 2 3;shape a ts ts ts;row 0 t;row 1 t;row 2 t;bridge told 0 1;");
        read(bridged, 0, 1, 1, 0, 0);
        bridged.put(0, 0, false);
        read(bridged, 0, 0, 1, 0, 0);
    }

    private static void ties() {
        TinStencils same = Due.with("plate 3 1;shape a t;shape b t;row 0 sts;");
        read(same, 0, 0, 2, 0, 1);
        TinStencils early = Due.with("plate 3 1;shape a tt;row 0 ttt;");
        read(early, 0, 1, 2, 0, 0);
        TinStencils lesser = Due.with("plate 4 1;shape a t;shape b tt;shape c tt;row 0 sttt;");
        read(lesser, 0, 0, 5, 0, 1, 1, 2);
    }

    private static void fewest() {
        TinStencils x = Due.with("plate 4 1;shape a t;shape b tt;shape s s;row 0 tts;");
        // left out columns that stay, too, cost nothing and are no shapes
        read(x, 0, 0, 8, 1, 0);
    }

    /** A shape wider than the sheet is never past it, so it is never read; one higher is judged below the sheet. */
    private static void tooWide() {
        TinStencils x = Due.with("plate 2 1;shape a ttt;row 0 tt;");
        read(x, 0, 2, 1);
        TinStencils both = Due.with("plate 2 1;shape a ttt;shape b tt ss ss ss ss ss ss ss;row 0 tt;");
        read(both, 0, 0, 1, 1, 0);
        TinStencils high = Due.with("plate 2 1;shape a ts ss st;row 0 tt;");
        read(high, 0, 2, 2);
    }

    private static void ways() {
        StringBuilder text = new StringBuilder("plate 20 1;");
        for (char c = 'a'; c < 'i'; c++) {
            text.append("shape " + c + " s;");
        }
        TinStencils x = Due.with(text.toString());
        DUE.is("at most", x.read(0, 0, 2), 1000000000000000000L);
        DUE.is("none needed", x.read(0, 0, 1), 0);
        TinStencils less = Due.with(text.toString().replace("plate 20", "plate 18"));
        long nine = 1;
        for (int k = 0; k < 18; k++) {
            nine *= 9;
        }
        DUE.is("9^18", less.read(0, 0, 2), nine);
        TinStencils most = Due.with(text.toString().replace("plate 20", "plate 19"));
        DUE.is("9^19 is more", most.read(0, 0, 2), 1000000000000000000L);
    }

    private static void wrong() {
        TinStencils x = Due.with("plate 3 2;shape a t;row 0 ttt;");
        read(x, 0, 0, 1, 0, 0, 0, 1, 0, 2);
        int[] whats = {-1, 3, 9, 13, 39, 43, Integer.MAX_VALUE, Integer.MIN_VALUE};
        for (int what : whats) {
            DUE.is("read(0, 0, " + what + ")", x.read(0, 0, what), -1);
        }
        DUE.is("read(0, 2, 0)", x.read(0, 2, 0), -1);
        DUE.is("read(0, -1, 0)", x.read(0, -1, 0), -1);
        DUE.is("read(1, 0, 0)", x.read(1, 0, 0), -1);
        DUE.is("read(-1, 0, 0)", x.read(-1, 0, 0), -1);
        DUE.is("read(6, 0, 0)", x.read(6, 0, 0), -1);
    }
}
