/** Promises 28 to 30: images, going back, counts. */
public final class ImageTest {
    private static final Due DUE = new Due();

    public static void main(String[] args) {
        images();
        keeping();
        keepingAll();
        counts();
        DUE.end();
    }

    private static void images() {
        TinStencils x = new TinStencils();
        DUE.is("back of none", x.back(0), false);
        for (int k = 0; k < 3; k++) {
            DUE.is("image", x.image(), k);
            DUE.is("count(2)", x.count(2), k + 1);
        }
        DUE.is("a fourth", x.image(), -1);
        DUE.is("count(2)", x.count(2), 3);
        DUE.is("count(11)", x.count(11), 1);
        DUE.is("back(3)", x.back(3), false);
        DUE.is("back(-1)", x.back(-1), false);
        DUE.is("count(10)", x.count(10), 3);
        DUE.is("back(2)", x.back(2), true);
        DUE.is("images stay", x.count(2), 3);
    }

    private static void keeping() {
        TinStencils x = Due.with(Due.drawn("###", "#.#", "###") + "shape a t s;bridge told 1 1;hold north;brush 3;wear 4;worth 0 0 to 0 0 9;");
        x.order(543210);
        DUE.is("image", x.image(), 0);
        Due.tell(x, 0, "plate 2 2;");
        Due.tell(x, 4, "plate 3 3;");
        Due.tell(x, 4, "plate");
        x.order(12345);
        DUE.is("image", x.image(), 1);
        x.feed(0, 0, 0, 0, 0);
        DUE.is("back(0)", x.back(0), true);
        int[] sheet = {3, 3, 9, 1, 1, 1, 1, 3, 4, 9};
        for (int k = 0; k < sheet.length; k++) {
            DUE.is("sheet(0, " + k + ")", x.sheet(0, k), sheet[k]);
        }
        DUE.is("worth", x.square(0, 0, 0, 2), 9);
        DUE.is("lasts", x.bridge(0, 0, 5), 60);
        DUE.is("read", x.read(0, 1, 1), 0);
        DUE.is("sheet 4 is not told", x.sheet(4, 0), -1);
        DUE.is("count(0)", x.count(0), 1);
        DUE.is("the tape stays", x.count(1), 20);
        DUE.is("the fault stays", x.fault(), 5);
        DUE.is("refused stays", x.count(12), 1);
        DUE.is("order", x.count(3), 543210);
        x.put(0, 0, false);
        x.change(0, 0, 0, true);
        DUE.is("back(0) again", x.back(0), true);
        DUE.is("tin", x.sheet(0, 9), 9);
        DUE.is("back(1)", x.back(1), true);
        DUE.is("sheet(0, 0)", x.sheet(0, 0), 2);
        DUE.is("sheet(4, 0)", x.sheet(4, 0), 3);
        DUE.is("count(3)", x.count(3), 12345);
        x.change(4, 0, 0, true);
        DUE.is("back(1)", x.back(1), true);
        DUE.is("the image is not what is changed", x.square(4, 0, 0, 0), 0);
        DUE.is("read of shapes", x.sheet(0, 3), 0);
        DUE.is("back(0)", x.back(0), true);
        x.put(0, 0, false);
        DUE.is("the shapes are as they were", x.read(0, 1, 0), 0);
        DUE.is("the shape's column", x.read(0, 1, 40), 1);
    }

    /** All that can be asked of two sheets is as it was, after others stood in their places. */
    private static void keepingAll() {
        for (int seed = 0; seed < 40; seed++) {
            Maker maker = new Maker(seed);
            TinStencils x = new TinStencils();
            TinStencils same = new TinStencils();
            for (int s = 0; s < 2; s++) {
                maker.make(9, 20, 6);
                String text = maker.text();
                Due.tell(x, s, text);
                Due.tell(same, s, text);
            }
            x.image();
            for (int s = 0; s < 3; s++) {
                maker.make(9, 20, 6);
                Due.tell(x, s, maker.text());
            }
            x.back(0);
            for (int s = 0; s < 3; s++) {
                asWas(x, same, s);
            }
        }
    }

    private static void asWas(TinStencils x, TinStencils same, int s) {
        for (int what = 0; what < 10; what++) {
            DUE.is("sheet " + what, x.sheet(s, what), same.sheet(s, what));
            for (int b = 0; b < 6; b++) {
                DUE.is("bridge " + what, x.bridge(s, b, what), same.bridge(s, b, what));
            }
            for (int y = 0; y < 9; y++) {
                DUE.is("read " + what, x.read(s, y, what), same.read(s, y, what));
                DUE.is("read " + (10 + what), x.read(s, y, 10 + what), same.read(s, y, 10 + what));
            }
            DUE.is("judge " + what, x.judge(s, what), same.judge(s, what));
            DUE.is("choice " + what, x.choice(s, false, what), same.choice(s, false, what));
            DUE.is("left " + what, x.left(what), same.left(what));
        }
        for (int k = 0; k < 81; k++) {
            for (int what = 0; what < 6; what++) {
                DUE.is("square", x.square(s, k % 9, k / 9, what), same.square(s, k % 9, k / 9, what));
            }
        }
    }

    private static void counts() {
        TinStencils x = new TinStencils();
        int[] none = {-1, 4, 9, 13, Integer.MAX_VALUE, Integer.MIN_VALUE};
        for (int what : none) {
            DUE.is("count(" + what + ")", x.count(what), -1);
        }
        for (int k = 0; k < 6; k++) {
            Due.tell(x, k, "plate 1 1;");
            DUE.is("told", x.count(0), k + 1);
        }
        Due.tell(x, 0, "plate 1 1;");
        DUE.is("told again", x.count(0), 6);
        // calls that only ask are never refused
        x.sheet(9, 9);
        x.square(9, 0, 0, 0);
        x.cheapest(9);
        x.left(99);
        x.read(9, 9, 9);
        x.count(99);
        DUE.is("count(10)", x.count(10), 0);
        DUE.is("count(11)", x.count(11), 0);
        DUE.is("count(12)", x.count(12), 0);
    }
}
