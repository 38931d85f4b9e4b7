import java.util.List;

/**
 * Each sentence about the tape, and about a call that tells something and may be refused, with a test of its own:
 * promises 1 to 4, 9, 11, 20 and 28 to 30.
 */
public final class RefusedEdgesTest {
    private static final Due DUE = new Due();
    private static final int NOT_AS_TOLD = 0;
    private static final int NO_ROOM = 1;
    private static final int FAULTY = 2;
    private static final int LOW = Integer.MIN_VALUE;
    private static final int HIGH = Integer.MAX_VALUE;

    public static void main(String[] args) {
        noSheetIsTold();
        highestFirst();
        behindThose();
        fullTape();
        sheetsToldByPlate();
        emptyThen();
        faultLeavesWhatWas();
        refusedPlate();
        faultOfTheLatestPlate();
        refusedChange();
        refusedPut();
        refusedOrder();
        imagesFull();
        refusedBack();
        allButTheTape();
        imagesOfTheirOwn();
        allOfASheet();
        allOfTheGreatest();
        notAsToldAheadOfNoRoom();
        countOfOthers();
        askingIsNeverRefused();
        lastCalls();
        DUE.end();
    }

    /** Two small sheets, an order, an image of another state, and a fault that was: enough to see anything change. */
    private static TinStencils object() {
        TinStencils x = Due.with("plate 2 2;row 0 t;shape a t;bridge told 0 0 hidden;worth 1 1 to 1 1 7;");
        x.image();
        Due.tell(x, 4, "plate 2 1;row 0 ts;hold east;bridge told 0 0;bridge straight 1 0 west 2;brush 4;wear 5;");
        x.put(4, 1, false);
        x.order(453210);
        Due.tell(x, 1, "plate 1 1;#");
        x.feed(0x20202020, 0x20202020, 0x20202020, 0x20202020, 0x20202020);
        return x;
    }

    private static List<Long> before;
    private static List<Integer> refusals;

    private static TinStencils watched() {
        TinStencils x = object();
        before = Asked.of(x);
        refusals = Asked.refused(x);
        return x;
    }

    private static void doneNothingBut(String call, TinStencils x, int reason) {
        DUE.is(call + " does nothing", Asked.of(x).equals(before), true);
        List<Integer> now = Asked.refused(x);
        for (int k = 0; k < 3; k++) {
            DUE.is(call + " refused by reason " + k, now.get(k) - refusals.get(k), k == reason ? 1 : 0);
        }
    }

    private static void noSheetIsTold() {
        DUE.says("No SHEET is told.");
        TinStencils x = new TinStencils();
        DUE.is("count(0)", x.count(0), 0);
        DUE.is("count(1)", x.count(1), 0);
        DUE.is("count(2)", x.count(2), 0);
        for (int s = 0; s < 6; s++) {
            DUE.is("sheet(" + s + ", 0)", x.sheet(s, 0), -1);
            DUE.is("change(" + s + ", 0, 0)", x.change(s, 0, 0, true), false);
            DUE.is("put(" + s + ", 0)", x.put(s, 0, true), false);
        }
        DUE.is("left(0)", x.left(0), -1);
        DUE.is("left(1)", x.left(1), -1);
        DUE.is("paint(0, 0)", x.paint(0, 0), -1);
        DUE.says("ORDER of SHEETS (at first 0 to 5)");
        DUE.is("count(3)", x.count(3), 12345);
        DUE.says("REFUSED at first");
        TinStencils fresh = new TinStencils();
        DUE.is("refused", Asked.refused(fresh).equals(List.of(0, 0, 0)), true);
    }

    /** The place of the only byte that begins no token tells where it came. */
    private static void highestFirst() {
        DUE.says("Twenty bytes come, of each number the highest first");
        for (int b : new int[] {0, 1, 127, 128, 200, 255}) {
            for (int place = 0; place < 20; place++) {
                int[] numbers = {0x20202020, 0x20202020, 0x20202020, 0x20202020, 0x20202020};
                int shift = 24 - place % 4 * 8;
                numbers[place / 4] = numbers[place / 4] & ~(255 << shift) | b << shift;
                TinStencils x = new TinStencils();
                DUE.is("feed", x.feed(numbers[0], numbers[1], numbers[2], numbers[3], numbers[4]), 20);
                DUE.is("plate", x.plate(0, 20), -1);
                DUE.is("place of byte " + b, x.fault(), place);
            }
        }
    }

    private static void behindThose() {
        DUE.says("behind those on the tape: how many there are");
        TinStencils x = new TinStencils();
        int spaces = 0x20202020;
        DUE.is("first", x.feed(spaces, spaces, spaces, spaces, spaces), 20);
        DUE.is("second", x.feed(spaces, spaces, 0x23202020, spaces, spaces), 40);
        DUE.is("third", x.feed(0x23202020, spaces, spaces, spaces, spaces), 60);
        DUE.is("plate", x.plate(0, 60), -1);
        DUE.is("the byte of the second", x.fault(), 28);
        DUE.is("from the first again", x.feed(spaces, spaces, spaces, spaces, 0x20202023), 20);
        DUE.is("plate", x.plate(0, 20), -1);
        DUE.is("its last byte", x.fault(), 19);
    }

    private static void fullTape() {
        DUE.says("NONE, doing nothing (not REFUSED): there would be more than 1,200");
        String text = "plate 2 2;" + " ".repeat(1182) + "brush 7;";
        TinStencils x = new TinStencils();
        int fed = Due.feed(x, text);
        DUE.is("the tape is full", x.count(1), 1200);
        DUE.is("the text's length", fed, 1200);
        DUE.is("feed", x.feed(0x23232323, 0x23232323, 0x23232323, 0x23232323, 0x23232323), -1);
        DUE.is("feed again", x.feed(0, 0, 0, 0, 0), -1);
        DUE.is("count(1)", x.count(1), 1200);
        DUE.is("not refused", Asked.refused(x).equals(List.of(0, 0, 0)), true);
        DUE.is("one more than there are", x.plate(0, 1201), -2);
        DUE.is("all of it", x.plate(0, 1200), 1);
        DUE.is("brush", x.sheet(0, 7), 7);
        DUE.says("a text of 1,200 tokens");
        Due.feed(x, ";".repeat(1200));
        DUE.is("all of it", x.plate(0, 1200), -1);
        DUE.is("its fault", x.fault(), 0);
        DUE.says("at 1,180 there is room");
        TinStencils near = new TinStencils();
        for (int k = 1; k <= 59; k++) {
            DUE.is("feed", near.feed(0, 0, 0, 0, 0), 20 * k);
        }
        DUE.is("the sixtieth", near.feed(0, 0, 0, 0, 0), 1200);
        DUE.is("the sixty-first", near.feed(0, 0, 0, 0, 0), -1);
    }

    private static void sheetsToldByPlate() {
        DUE.says("SHEETS 0 to 5");
        TinStencils x = new TinStencils();
        for (int s = 0; s < 6; s++) {
            DUE.is("plate(" + s + ")", Due.tell(x, s, "plate " + (s + 1) + " 1;"), 0);
            DUE.is("count(0)", x.count(0), s + 1);
        }
        for (int s = 0; s < 6; s++) {
            DUE.is("WIDE of " + s, x.sheet(s, 0), s + 1);
        }
    }

    private static void emptyThen() {
        DUE.says("The first n bytes of the tape (which is empty then)");
        TinStencils x = new TinStencils();
        Due.feed(x, "plate 2 2;brush 3;#");
        DUE.is("ten of twenty", x.plate(0, 10), 0);
        DUE.is("count(1)", x.count(1), 0);
        Due.feed(x, "plate 2 2;brush 3;#");
        DUE.is("all but the #", x.plate(0, 18), 1);
        Due.feed(x, "plate 2 2;brush 3;#");
        DUE.is("with the #", x.plate(0, 19), -1);
        DUE.is("its fault", x.fault(), 18);
        DUE.is("empty after a fault", x.count(1), 0);
        DUE.is("one byte more than none", x.plate(0, 1), -2);
        DUE.says("The first n bytes (a token ends with them)");
        String text = "plate 12 12;brush 4000;";
        for (int n = 0; n < text.length(); n++) {
            Due.tell(x, 0, text);
            DUE.is("all of it is a fault", x.fault(), 18);
            Due.feed(x, text);
            boolean whole = n == 12;
            DUE.is("the first " + n, x.plate(1, n), whole ? 0 : -1);
            boolean inWord = n > 0 && n < 5 || n > 12 && n < 17;
            int at = whole ? -1 : n == 22 ? 18 : inWord ? (n < 5 ? 0 : 12) : n;
            DUE.is("fault of the first " + n, x.fault(), at);
        }
        x = new TinStencils();
        x.plate(0, 0);
        DUE.says("n is 0");
        DUE.is("of an empty tape", x.plate(0, 0), -1);
        DUE.is("its fault", x.fault(), 0);
        Due.feed(x, "plate 2 2;");
        DUE.is("of a tape", x.plate(0, 0), -1);
        DUE.is("its fault", x.fault(), 0);
        DUE.is("the tape is empty", x.count(1), 0);
        DUE.is("three faults", x.count(12), 3);
    }

    private static void faultLeavesWhatWas() {
        DUE.says("NONE: a FAULT (what was stays)");
        String[] texts = {"x", "plate 9 9", "plate 9 9;row 0 t;hold south;brush 9;wear 9;worth 0 0 to 8 8 9;#",
            "plate 9 9;shape a t;shape b t;put a 0 0;bridge told 0 0;put c", ""};
        for (String text : texts) {
            for (int sheet : new int[] {0, 2, 4}) {
                TinStencils x = object();
                x.plate(5, 0);
                int fault = x.fault();
                List<Long> was = Asked.of(x);
                refusals = Asked.refused(x);
                DUE.is("plate", Due.tell(x, sheet, text), -1);
                int place = x.fault();
                DUE.is("back to the fault that was", x.plate(5, 0), -1);
                DUE.is("fault", x.fault(), fault);
                DUE.is("what was stays", Asked.of(x).equals(was), true);
                DUE.is("a fault is refused by reason 2", x.count(12) - refusals.get(FAULTY), 2);
                DUE.is("and by no other", x.count(10) + x.count(11), refusals.get(NOT_AS_TOLD) + refusals.get(NO_ROOM));
                DUE.is("the fault is in the text", place >= 0 && place <= text.length(), true);
            }
        }
    }

    private static void refusedPlate() {
        DUE.says("-2, doing nothing but REFUSED: n is below 0 or more than there are, no such SHEET");
        int[][] calls = {{0, -1}, {0, 21}, {-1, 10}, {6, 10}, {LOW, 10}, {HIGH, 10}, {0, LOW}, {0, HIGH}, {-1, 0}, {6, 21}, {-1, -1}};
        for (int[] c : calls) {
            TinStencils x = watched();
            DUE.is("plate(" + c[0] + ", " + c[1] + ")", x.plate(c[0], c[1]), -2);
            doneNothingBut("plate(" + c[0] + ", " + c[1] + ")", x, NOT_AS_TOLD);
        }
        TinStencils x = new TinStencils();
        Due.feed(x, "plate 2 2;brush 3;");
        DUE.is("no such sheet", x.plate(6, 18), -2);
        DUE.is("the tape is as it was", x.plate(5, 18), 1);
    }

    private static void faultOfTheLatestPlate() {
        DUE.says("The FAULT's place of the latest plate() that was a number or NONE; NONE: it had none");
        TinStencils x = new TinStencils();
        DUE.is("none yet", x.fault(), -1);
        x.plate(-1, 0);
        DUE.is("behind -2", x.fault(), -1);
        Due.tell(x, 0, "plate 1 1;x");
        DUE.is("behind NONE", x.fault(), 10);
        x.plate(0, 1);
        DUE.is("behind -2 again", x.fault(), 10);
        x.feed(0, 0, 0, 0, 0);
        DUE.is("behind feed", x.fault(), 10);
        DUE.is("asked again", x.fault(), 10);
        DUE.is("taken", x.plate(0, 20), -1);
        DUE.is("behind NONE at 0", x.fault(), 0);
        Due.tell(x, 1, "plate 1 1;");
        DUE.is("behind a number", x.fault(), -1);
        x.plate(1, -1);
        DUE.is("behind -2 at last", x.fault(), -1);
    }

    private static void refusedChange() {
        DUE.says("false, doing nothing but REFUSED: none such (change)");
        int[][] calls = {{0, -1, 0}, {0, 2, 0}, {0, 0, -1}, {0, 0, 2}, {4, 0, 1}, {4, 2, 0}, {1, 0, 0}, {-1, 0, 0}, {6, 0, 0}, {LOW, 0, 0},
            {HIGH, 0, 0}, {0, LOW, 0}, {0, HIGH, 0}, {0, 0, LOW}, {0, 0, HIGH}, {0, 32, 0}, {0, 0, 20}};
        for (int[] c : calls) {
            for (int through = 0; through < 2; through++) {
                TinStencils x = watched();
                String call = "change(" + c[0] + ", " + c[1] + ", " + c[2] + ", " + (through == 1) + ")";
                DUE.is(call, x.change(c[0], c[1], c[2], through == 1), false);
                doneNothingBut(call, x, NOT_AS_TOLD);
            }
        }
        DUE.says("A square is made THROUGH, or STAYS: true (at the four corners, and as it was already)");
        for (int k = 0; k < 4; k++) {
            TinStencils x = Due.with("plate 20 20;");
            int a = k % 2 * 19;
            int b = k / 2 * 19;
            DUE.is("stays already", x.change(0, a, b, false), true);
            DUE.is("squares", x.sheet(0, 9), 400);
            DUE.is("through", x.change(0, a, b, true), true);
            DUE.is("through already", x.change(0, a, b, true), true);
            DUE.is("squares", x.sheet(0, 9), 399);
            DUE.is("which", x.square(0, a, b, 0), 1);
            DUE.is("stays", x.change(0, a, b, false), true);
            DUE.is("squares", x.sheet(0, 9), 400);
            DUE.is("not refused", x.count(10), 0);
        }
    }

    private static void refusedPut() {
        DUE.says("false, doing nothing but REFUSED: none such (put)");
        int[][] calls = {{0, -1}, {0, 1}, {4, 2}, {0, 31}, {0, 32}, {0, 33}, {0, LOW}, {0, HIGH}, {1, 0}, {-1, 0}, {6, 0}, {LOW, 0}, {HIGH, 0}};
        for (int[] c : calls) {
            for (int in = 0; in < 2; in++) {
                TinStencils x = watched();
                String call = "put(" + c[0] + ", " + c[1] + ", " + (in == 1) + ")";
                DUE.is(call, x.put(c[0], c[1], in == 1), false);
                doneNothingBut(call, x, NOT_AS_TOLD);
            }
        }
        DUE.says("A BRIDGE is IN, or not: true (the first and the twelfth, and as it was already)");
        TinStencils x = Due.with("plate 1 1;" + "bridge told 0 0;".repeat(12));
        DUE.is("all in", x.sheet(0, 5), 4095);
        for (int b : new int[] {0, 11}) {
            DUE.is("in already", x.put(0, b, true), true);
            DUE.is("out", x.put(0, b, false), true);
            DUE.is("out already", x.put(0, b, false), true);
            DUE.is("bits", x.sheet(0, 5), 4095 - (1 << b));
            DUE.is("bridge", x.bridge(0, b, 4), 0);
            DUE.is("in", x.put(0, b, true), true);
            DUE.is("bits", x.sheet(0, 5), 4095);
        }
        DUE.is("put(0, 12)", x.put(0, 12, false), false);
        DUE.is("refused", x.count(10), 1);
    }

    private static void refusedOrder() {
        DUE.says("false, doing nothing but REFUSED: not as told (order)");
        int[] wrong = {-1, 0, 5, 12344, 12346, 12355, 11345, 2345, 112345, 123456, 543211, 543216, 643210, 1012345, 1543210, 6012345,
            -12345, -543210, 999999, 1000000, LOW, HIGH};
        for (int digits : wrong) {
            TinStencils x = watched();
            DUE.is("order(" + digits + ")", x.order(digits), false);
            doneNothingBut("order(" + digits + ")", x, NOT_AS_TOLD);
        }
        DUE.says("six digits of a number, the first the highest; each of 0 to 5 once: true");
        TinStencils x = new TinStencils();
        for (int digits : new int[] {12345, 12354, 54321, 102345, 543210, 453210}) {
            DUE.is("order(" + digits + ")", x.order(digits), true);
            DUE.is("count(3)", x.count(3), digits);
        }
        int taken = 0;
        TinStencils all = new TinStencils();
        for (int digits = 0; digits < 1000000; digits++) {
            // an object is used for at most 512 calls
            all = digits % 500 == 0 ? new TinStencils() : all;
            taken += all.order(digits) ? 1 : 0;
        }
        DUE.is("orders there are", taken, 720);
    }

    private static void imagesFull() {
        DUE.says("An IMAGE: its number. NONE, doing nothing but REFUSED: 3 are there.");
        TinStencils x = object();
        DUE.is("the second", x.image(), 1);
        DUE.is("the third", x.image(), 2);
        DUE.is("count(2)", x.count(2), 3);
        x.change(0, 1, 1, true);
        before = Asked.of(x);
        refusals = Asked.refused(x);
        DUE.is("a fourth", x.image(), -1);
        doneNothingBut("a fourth image", x, NO_ROOM);
        x.back(2);
        DUE.is("the third image is as it was", x.square(0, 1, 1, 0), 0);
    }

    private static void refusedBack() {
        DUE.says("false, doing nothing but REFUSED: none such (back)");
        for (int image : new int[] {-1, 1, 2, 3, LOW, HIGH}) {
            TinStencils x = watched();
            DUE.is("back(" + image + ")", x.back(image), false);
            doneNothingBut("back(" + image + ")", x, NOT_AS_TOLD);
        }
        TinStencils x = new TinStencils();
        DUE.is("back(0) without any", x.back(0), false);
        DUE.is("count(2)", x.count(2), 0);
        for (int k = 0; k < 3; k++) {
            DUE.is("back(" + k + ") ahead of it", x.back(k), false);
            DUE.is("image", x.image(), k);
            DUE.is("back(" + k + ")", x.back(k), true);
        }
        DUE.is("back(3)", x.back(3), false);
    }

    private static void allButTheTape() {
        DUE.says("IMAGES: all but the tape, its FAULT, REFUSED");
        TinStencils x = new TinStencils();
        DUE.is("of nothing told", x.image(), 0);
        Due.tell(x, 0, "plate 2 2;bridge told 0 0;row 0 t;");
        DUE.is("of one sheet", x.image(), 1);
        Due.tell(x, 0, "plate 3 3;");
        Due.tell(x, 5, "plate 1 1;");
        Due.tell(x, 1, "plate 1 1;row 1");
        x.order(543210);
        x.put(0, 3, true);
        x.feed(0, 0, 0, 0, 0);
        List<Integer> refused = Asked.refused(x);
        DUE.is("back to one sheet", x.back(1), true);
        DUE.is("count(0)", x.count(0), 1);
        DUE.is("WIDE", x.sheet(0, 0), 2);
        DUE.is("ORDER", x.count(3), 12345);
        DUE.is("the tape", x.count(1), 20);
        DUE.is("the fault", x.fault(), 14);
        DUE.is("refused", Asked.refused(x).equals(refused), true);
        DUE.is("back to nothing", x.back(0), true);
        DUE.is("count(0)", x.count(0), 0);
        DUE.is("sheet 0", x.sheet(0, 0), -1);
        DUE.is("the tape", x.count(1), 20);
        DUE.is("the fault", x.fault(), 14);
        DUE.is("forth again", x.back(1), true);
        DUE.is("count(0)", x.count(0), 1);
        DUE.is("the tape is still to be told", x.plate(0, 20), -1);
        DUE.is("its fault", x.fault(), 0);
    }

    private static void imagesOfTheirOwn() {
        DUE.says("All is as in an IMAGE: true");
        TinStencils x = Due.with("plate 2 2;bridge told 0 0;row 0 t;");
        x.image();
        x.put(0, 0, false);
        x.image();
        x.change(0, 1, 1, true);
        x.image();
        int[][] want = {{1, 0}, {0, 0}, {0, 1}};
        for (int k : new int[] {0, 2, 1, 0, 1, 2, 2, 0}) {
            DUE.is("back(" + k + ")", x.back(k), true);
            DUE.is("IN", x.sheet(0, 5), want[k][0]);
            DUE.is("through", x.square(0, 1, 1, 0), want[k][1]);
            x.put(0, 0, k != 0);
            x.change(0, 1, 1, k != 2);
            x.change(0, 0, 0, false);
            DUE.is("images", x.count(2), 3);
        }
    }

    private static void allOfASheet() {
        DUE.says("IMAGES: all (of each SHEET)");
        String[] texts = {"plate 2 3;row 0 tt;shape a ts ss;hold north;worth 1 1 to 1 2 8;brush 3;wear 90;bridge told 0 0 hidden;bridge told 0 0,1 0;",
            "plate 3 2;row 1 t;shape b t;shape c s;hold east west;brush 8;wear 7;bridge broad 0 0 east 2 2;worth 0 0 to 0 0 2;", "plate 1 1;"};
        for (int one = 0; one < texts.length; one++) {
            for (int other = 0; other < texts.length; other++) {
                TinStencils x = Due.with(texts[one]);
                Due.tell(x, 5, texts[other]);
                DUE.is("image", x.image(), 0);
                List<Long> was = Asked.of(x);
                Due.tell(x, 0, texts[other]);
                Due.tell(x, 5, texts[one]);
                DUE.is("image", x.image(), 1);
                DUE.is("back", x.back(0), true);
                was.set(2, 2L);
                DUE.is("all is as it was", Asked.of(x).equals(was), true);
                DUE.is("kind", x.bridge(0, 0, 0), one == 0 ? 3 : one == 1 ? 1 : -1);
                DUE.is("hidden", x.bridge(0, 0, 3), one == 0 ? 1 : one == 1 ? 0 : -1);
            }
        }
    }

    private static void allOfTheGreatest() {
        DUE.says("IMAGES: all (of the greatest SHEETS)");
        StringBuilder text = new StringBuilder("plate 20 20;worth 19 19 to 19 19 99;row 19 " + "s".repeat(19) + "t;hold south;");
        for (int b = 0; b < 12; b++) {
            text.append("bridge straight " + b + " 19 west " + (b + 1) + ";");
        }
        for (int k = 0; k < 8; k++) {
            text.append("shape " + (char) ('a' + k) + " sssssss" + (k == 7 ? "t" : "s") + ";");
        }
        TinStencils x = new TinStencils();
        Due.tell(x, 5, text.toString());
        DUE.is("image", x.image(), 0);
        Due.tell(x, 5, "plate 20 20;");
        DUE.is("back", x.back(0), true);
        for (int b = 0; b < 12; b++) {
            DUE.is("squares of bridge " + b, x.bridge(5, b, 1), b + 1);
        }
        DUE.is("worth", x.square(5, 19, 19, 2), 99);
        DUE.is("through", x.square(5, 19, 19, 0), 1);
        DUE.is("held by", x.sheet(5, 6), 4);
        DUE.is("shapes", x.sheet(5, 3), 8);
        DUE.is("the eighth shape is as it was", x.read(5, 19, 0), 0);
        DUE.is("it is the only one", x.read(5, 19, 1), 1);
        DUE.is("the eighth", x.read(5, 19, 10), 7);
        DUE.is("its column", x.read(5, 19, 40), 12);
    }

    private static void notAsToldAheadOfNoRoom() {
        DUE.says("REFUSED: 0 not as told, 1 no more room (if as told), 2 a FAULT");
        TinStencils x = new TinStencils();
        x.order(1);
        x.back(0);
        x.plate(0, 1);
        x.put(0, 0, true);
        x.change(0, 0, 0, true);
        DUE.is("count(10)", x.count(10), 5);
        DUE.is("count(11)", x.count(11), 0);
        DUE.is("count(12)", x.count(12), 0);
        for (int k = 0; k < 5; k++) {
            x.image();
        }
        DUE.is("count(11)", x.count(11), 2);
        x.plate(0, 0);
        x.plate(5, 0);
        x.plate(6, 0);
        DUE.is("count(12)", x.count(12), 2);
        DUE.is("count(10)", x.count(10), 6);
        DUE.is("count(11)", x.count(11), 2);
    }

    private static void countOfOthers() {
        DUE.says("NONE for others (count)");
        TinStencils x = object();
        for (int what : new int[] {-1, 4, 5, 9, 13, 14, 100, LOW, HIGH}) {
            DUE.is("count(" + what + ")", x.count(what), -1);
        }
        int[] want = {2, 20, 1, 453210};
        for (int what = 0; what < 4; what++) {
            DUE.is("count(" + what + ")", x.count(what), want[what]);
        }
    }

    private static void askingIsNeverRefused() {
        DUE.says("REFUSED: calls that tell something");
        TinStencils x = watched();
        for (int s : new int[] {-1, 3, 6}) {
            x.sheet(s, 0);
            x.square(s, 0, 0, 0);
            x.falls(s, -1, 0);
            x.tongues(s, 0);
            x.bridge(s, 0, 0);
            x.judge(s, 0);
            x.cheapest(s);
            x.made(s);
            x.choice(s, true, 0);
            x.sag(s, 0, 0, 0, 0);
            x.corner(s);
            x.first(s);
            x.spoilt(s, 0);
            x.paint(s, 20);
            x.left(s);
            x.alike(s, s, 4, 10, 10);
            x.turn(s, s);
            x.read(s, 0, 0);
            x.hole(s, -1, 0);
            x.cut(s, 0);
            x.count(s + 20);
        }
        doneNothingBut("asking", x, -1);
    }

    private static void lastCalls() {
        DUE.says("An object is used for at most 512 calls");
        // the text takes a feed and a plate: two calls
        TinStencils x = Due.with("plate 2 2;row 0 t;");
        for (int k = 3; k < 512; k++) {
            x.change(0, 1, 1, k % 2 == 0);
        }
        DUE.is("the 512th call", x.sheet(0, 9), 3);
    }
}
