/** Promises 20 to 24: the order, what is painted and left, sheets turned for one another. */
public final class PileTest {
    private static final Due DUE = new Due();

    public static void main(String[] args) {
        ordering();
        painting();
        sizes();
        leaving();
        least();
        turning();
        moving();
        DUE.end();
    }

    private static void ordering() {
        TinStencils x = new TinStencils();
        int[] right = {12345, 543210, 102345, 21345, 501234};
        for (int digits : right) {
            DUE.is("order(" + digits + ")", x.order(digits), true);
            DUE.is("count(3)", x.count(3), digits);
        }
        int[] wrong = {-1, 0, 1234, 112345, 12346, 123456, 654321, 5432101, 1012345, 543216, -543210, 10012345,
            Integer.MAX_VALUE, Integer.MIN_VALUE};
        for (int digits : wrong) {
            DUE.is("order(" + digits + ")", x.order(digits), false);
        }
        DUE.is("count(3) stays", x.count(3), 501234);
        DUE.is("refused", x.count(10), wrong.length);
    }

    private static void painting() {
        TinStencils x = Due.with(Due.drawn("..#", "#.#"));
        DUE.is("paint(0, 0)", x.paint(0, 0), 0);
        DUE.is("paint(2, 0)", x.paint(2, 0), -1);
        Due.tell(x, 3, Due.drawn(".#.", "###") + "bridge told 0 0;");
        DUE.is("a bridge is tin", x.paint(0, 0), 0);
        x.put(3, 0, false);
        DUE.is("the latest", x.paint(0, 0), 3);
        DUE.is("order", x.order(345012), true);
        DUE.is("the latest of the order", x.paint(0, 0), 0);
        DUE.is("the only one", x.paint(2, 0), 3);
        DUE.is("paint(-1, 0)", x.paint(-1, 0), -1);
        DUE.is("paint(0, -1)", x.paint(0, -1), -1);
        DUE.is("paint(20, 0)", x.paint(20, 0), -1);
        DUE.is("paint(0, 20)", x.paint(0, 20), -1);
        DUE.is("none told", new TinStencils().paint(0, 0), -1);
    }

    /** A sheet paints squares of its own alone. */
    private static void sizes() {
        TinStencils x = Due.with(Due.drawn("...", "...", "...") + "bridge told 2 2,0 0;");
        Due.tell(x, 1, Due.drawn("..", ".."));
        DUE.is("where both are", x.paint(1, 1), 1);
        DUE.is("beyond the small one", x.paint(2, 1), 0);
        DUE.is("beyond both", x.paint(3, 3), -1);
        DUE.is("left beyond the small one", x.left(0), 1);
    }

    private static void leaving() {
        TinStencils x = Due.with(Due.drawn("...", "...") + "worth 0 0 to 2 0 5;bridge told 0 0,1 0,2 1;");
        DUE.is("left", x.left(0), 11);
        DUE.is("least", x.left(1), 11);
        x.put(0, 0, false);
        DUE.is("left without", x.left(0), 0);
        x.put(0, 0, true);
        Due.tell(x, 4, Due.drawn(".##", "###") + "bridge told 0 0;worth 0 0 to 0 0 50;");
        DUE.is("its bridge is tin there", x.left(0), 61);
        x.put(4, 0, false);
        DUE.is("painted later", x.left(0), 6);
        x.order(543210);
        DUE.is("painted ahead", x.left(0), 11);
        DUE.is("least", x.left(1), 6);
        DUE.is("left(10)", x.left(10), 0);
        DUE.is("left(11)", x.left(11), 4);
        DUE.is("left(12)", x.left(12), -1);
        int[] wrong = {-1, 2, 9, 16, 20, Integer.MAX_VALUE, Integer.MIN_VALUE};
        for (int what : wrong) {
            DUE.is("left(" + what + ")", x.left(what), -1);
        }
        DUE.is("none told", new TinStencils().left(0), -1);
        DUE.is("none told", new TinStencils().left(1), -1);
        DUE.is("none told", new TinStencils().left(10), -1);
    }

    private static void least() {
        TinStencils x = new TinStencils();
        for (int k = 5; k >= 0; k--) {
            String row = "sssss" + "s";
            row = row.substring(0, k) + "t" + row.substring(k + 1);
            Due.tell(x, k, "plate 6 1;row 0 " + row + ";" + (k > 0 ? "row 0 " + twoCut(k) + ";bridge told " + (k - 1) + " 0;" : ""));
        }
        // each sheet leaves the square that the one before cuts open: the later must be the one before
        DUE.is("left", x.left(0), 5);
        DUE.is("least", x.left(1), 0);
        for (int k = 0; k < 6; k++) {
            DUE.is("left(" + (10 + k) + ")", x.left(10 + k), 5 - k);
        }
        x.order(543210);
        DUE.is("left", x.left(0), 0);
        TinStencils same = new TinStencils();
        for (int k = 0; k < 6; k += 2) {
            Due.tell(same, k, "plate 2 2;");
        }
        same.order(543210);
        for (int k = 0; k < 3; k++) {
            DUE.is("the first by numbers", same.left(10 + k), 2 * k);
        }
    }

    private static String twoCut(int k) {
        StringBuilder row = new StringBuilder("ssssss");
        row.setCharAt(k, 't');
        row.setCharAt(k - 1, 't');
        return row.toString();
    }

    private static void turning() {
        TinStencils x = Due.with(Due.drawn(".##", "###"));
        Due.tell(x, 1, Due.drawn("#.", "##", "##"));
        Due.tell(x, 2, Due.drawn("###", "##."));
        Due.tell(x, 3, Due.drawn("##", "##", ".#"));
        int[] turns = {0, 1, 2, 3};
        for (int b = 0; b < 4; b++) {
            DUE.is("turn(0, " + b + ")", x.turn(0, b), turns[b]);
            DUE.is("alike as turned", x.alike(0, b, turns[b], 0, 0), 6);
            DUE.is("turn back", x.turn(b, 0), (4 - turns[b]) % 4);
        }
        DUE.is("alike(0, 2, 0)", x.alike(0, 2, 0, 0, 0), 4);
        Due.tell(x, 4, "plate 3 3;");
        DUE.is("of several the least", x.turn(4, 4), 0);
        DUE.is("turn(0, 5)", x.turn(0, 5), -1);
        DUE.is("turn(5, 0)", x.turn(5, 0), -1);
        DUE.is("turn(-1, 6)", x.turn(-1, 6), -1);
    }

    private static void moving() {
        TinStencils x = Due.with(Due.drawn(".##", "###") + "bridge told 1 1;");
        Due.tell(x, 1, Due.drawn("####", "##.#", "####"));
        DUE.is("moved upon it", x.alike(0, 1, 0, 2, 1), 4);
        DUE.is("moved by one", x.alike(0, 1, 0, 1, 1), 4);
        DUE.is("back", x.alike(0, 1, 0, -1, -1), 2);
        DUE.is("off", x.alike(0, 1, 0, 4, 0), 0);
        DUE.is("by itself", x.alike(0, 0, 0, 0, 0), 6);
        DUE.is("farthest", x.alike(0, 1, 3, -9, 9), 0);
        DUE.is("farthest", x.alike(0, 1, 3, 9, -9), 0);
        int[][] wrong = {{0, 1, -1, 0, 0}, {0, 1, 4, 0, 0}, {0, 1, 0, -10, 0}, {0, 1, 0, 10, 0}, {0, 1, 0, 0, -10}, {0, 1, 0, 0, 10},
            {0, 2, 0, 0, 0}, {2, 0, 0, 0, 0}, {-1, 0, 0, 0, 0}, {0, 6, 0, 0, 0}};
        for (int[] w : wrong) {
            DUE.is("alike of none", x.alike(w[0], w[1], w[2], w[3], w[4]), -1);
        }
    }
}
