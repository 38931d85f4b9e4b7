import java.util.Arrays;

/**
 * Stencils of tin, told in texts: what hangs and what falls, bridges, necks, sheets over one another.
 *
 * Squares are held as bits, a number for each row (bit x of row y), so that whole rows are judged at once;
 * where squares are walked one by one, a square is the number y * EDGE + x.
 */
public final class TinStencils {
    public static final int NONE = -1;

    private static final int REFUSED_PLATE = -2;
    private static final int SHEETS = 6;
    private static final int EDGE = 20;
    private static final int SQUARES = 400;
    private static final int SIDES = 4;
    private static final int TAPE = 1200;
    private static final int IMAGES = 3;
    private static final int STATEMENTS = 60;
    private static final int SHAPES = 8;
    private static final int SHAPE_EDGE = 8;
    private static final int BRIDGES = 12;
    private static final int TOLD_SQUARES = 8;
    private static final int MOST_PIECES = 7;
    private static final int MOST_HOLES = 8;
    private static final int MOVE = 9;

    private static final int NOT_AS_TOLD = 0;
    private static final int NO_ROOM = 1;
    private static final int FAULTY = 2;

    /** Steps to a side: north, east, south, west. */
    private static final int[] STEP_X = {0, 1, 0, -1};
    private static final int[] STEP_Y = {-1, 0, 1, 0};

    private final int[] tape = new int[TAPE];
    private int tapeLength = 0;
    private int faultPlace = NONE;
    private final int[] refused = new int[3];
    private final Pile now = new Pile();
    private final Pile[] images = new Pile[IMAGES];
    private int imageCount = 0;
    private Sheet draft = new Sheet();
    private final Teller teller = new Teller();
    private final Hanging hanging = new Hanging();
    private final Parts parts = new Parts();
    private final Joining joining = new Joining();
    private final Choosing choosing = new Choosing();
    private final Reading reading = new Reading();
    private final Cutting cutting = new Cutting();
    private final int[] anchors = new int[EDGE];
    private final int[] open = new int[EDGE];

    public TinStencils() {
        for (int k = 0; k < IMAGES; k++) {
            images[k] = new Pile();
        }
    }

    public int feed(int a, int b, int c, int d, int e) {
        if (tapeLength > TAPE - 20) {
            return NONE;
        }
        feedNumber(a);
        feedNumber(b);
        feedNumber(c);
        feedNumber(d);
        feedNumber(e);
        return tapeLength;
    }

    private void feedNumber(int number) {
        for (int shift = 24; shift >= 0 && tapeLength < TAPE; shift -= 8) {
            tape[tapeLength] = (number >>> shift) & 255;
            tapeLength++;
        }
    }

    public int plate(int sheet, int n) {
        if (n < 0 || n > tapeLength || sheet < 0 || sheet >= SHEETS) {
            refused[NOT_AS_TOLD]++;
            return REFUSED_PLATE;
        }
        boolean told = teller.tell(tape, n, draft);
        tapeLength = 0;
        if (!told) {
            faultPlace = teller.place();
            refused[FAULTY]++;
            return NONE;
        }
        faultPlace = NONE;
        Sheet before = now.sheets[sheet];
        now.sheets[sheet] = draft;
        draft = before;
        return now.sheets[sheet].statements;
    }

    public int fault() {
        return faultPlace;
    }

    public int sheet(int sheet, int what) {
        Sheet s = toldSheet(sheet);
        if (s == null) {
            return NONE;
        }
        switch (what) {
            case 0: return s.wide;
            case 1: return s.high;
            case 2: return s.statements;
            case 3: return s.shapeNumber;
            case 4: return s.bridges.number;
            case 5: return s.bridges.in;
            case 6: return s.held;
            case 7: return s.brush;
            case 8: return s.wear;
            case 9: return s.tinSquares(s.bridges.in);
            default: return NONE;
        }
    }

    public int square(int sheet, int x, int y, int what) {
        Sheet s = toldSheet(sheet);
        if (s == null || !s.has(x, y)) {
            return NONE;
        }
        int square = y * EDGE + x;
        switch (what) {
            case 0: return (s.through[y] >> x) & 1;
            case 1: return (s.tinRow(y, s.bridges.in) >> x) & 1;
            case 2: return s.worth[square];
            case 3:
                hanging.spread(s, s.bridges.in);
                return (hanging.hung[y] >> x) & 1;
            case 4:
                findPieces(s, s.bridges.in);
                return parts.partOf[square];
            case 5:
                walkHeld(s);
                return hanging.tongue[square];
            default: return NONE;
        }
    }

    public int falls(int sheet, int k, int what) {
        Sheet s = toldSheet(sheet);
        if (s == null) {
            return NONE;
        }
        findPieces(s, s.bridges.in);
        if (what == 3 && parts.has(k)) {
            return parts.gap(k, s, hanging.tin);
        }
        return parts.told(k, what);
    }

    public int tongues(int sheet, int what) {
        Sheet s = toldSheet(sheet);
        if (s == null || what < 0 || what > 2) {
            return NONE;
        }
        walkHeld(s);
        if (what == 0) {
            return hanging.tonguesAbove(0, NONE);
        }
        return what == 1 ? hanging.greatestTongue(NONE) : hanging.tonguesAbove(s.brush, NONE);
    }

    public boolean change(int sheet, int x, int y, boolean through) {
        Sheet s = toldSheet(sheet);
        if (s == null || !s.has(x, y)) {
            refused[NOT_AS_TOLD]++;
            return false;
        }
        s.setThrough(x, y, through);
        return true;
    }

    public int bridge(int sheet, int bridge, int what) {
        Sheet s = toldSheet(sheet);
        if (s == null || !s.bridges.has(bridge)) {
            return NONE;
        }
        switch (what) {
            case 0: return s.bridges.kind[bridge];
            case 1: return s.bridges.squares(bridge);
            case 2: return s.bridgedThrough(bridge);
            case 3: return (s.bridges.hidden >> bridge) & 1;
            case 4: return (s.bridges.in >> bridge) & 1;
            case 5: return s.bridges.lasts[bridge];
            default: return NONE;
        }
    }

    public boolean put(int sheet, int bridge, boolean in) {
        Sheet s = toldSheet(sheet);
        if (s == null || !s.bridges.has(bridge)) {
            refused[NOT_AS_TOLD]++;
            return false;
        }
        int bit = 1 << bridge;
        s.bridges.in = in ? s.bridges.in | bit : s.bridges.in & ~bit;
        return true;
    }

    public int judge(int sheet, int what) {
        Sheet s = toldSheet(sheet);
        if (s == null) {
            return NONE;
        }
        switch (what) {
            case 0:
                hanging.spread(s, s.bridges.in);
                return hanging.loose() == 0 ? 1 : 0;
            case 1: return s.bridges.firstBelow(s.wear);
            case 2: return s.seen(s.bridges.in, toldSheet(sheet + 1));
            default: return NONE;
        }
    }

    public int cheapest(int sheet) {
        Sheet s = toldSheet(sheet);
        if (s == null || !joinable(s)) {
            return NONE;
        }
        joining.join(s, parts, true);
        return joining.cheapestJoin();
    }

    public int made(int sheet) {
        Sheet s = toldSheet(sheet);
        if (s == null || !joinable(s)) {
            return NONE;
        }
        joining.join(s, parts, false);
        return joining.fewestChanges(parts);
    }

    public int choice(int sheet, boolean twice, int what) {
        Sheet s = toldSheet(sheet);
        if (s == null || what < 0 || what > 2) {
            return NONE;
        }
        int set = choosing.choose(s, toldSheet(sheet + 1), hanging, twice);
        if (set == NONE || what == 0) {
            return set;
        }
        return what == 1 ? choosing.seenBy(set) : Integer.bitCount(set);
    }

    public int sag(int sheet, int x, int y, int n, int what) {
        Sheet s = toldSheet(sheet);
        if (s == null || !s.isTin(x, y) || what < 0 || what > 1) {
            return NONE;
        }
        return what == 0 ? sagOf(s, x, y) : sagsAbove(s, x, y, n);
    }

    public int corner(int sheet) {
        Sheet s = toldSheet(sheet);
        if (s == null) {
            return NONE;
        }
        int best = NONE;
        int least = 0;
        for (int k = 0; k < 4; k++) {
            int x = k == 1 || k == 2 ? s.wide - 1 : 0;
            int y = k >= 2 ? s.high - 1 : 0;
            if (s.isTin(x, y)) {
                int sagging = sagOf(s, x, y);
                if (best == NONE || sagging < least) {
                    best = k;
                    least = sagging;
                }
            }
        }
        return best;
    }

    public int first(int sheet) {
        Sheet s = toldSheet(sheet);
        return s == null ? NONE : s.bridges.leastLasting();
    }

    public int spoilt(int sheet, int bridge) {
        Sheet s = toldSheet(sheet);
        if (s == null || !s.bridges.has(bridge) || ((s.bridges.in >> bridge) & 1) == 0) {
            return NONE;
        }
        hanging.spread(s, s.bridges.in);
        int with = hanging.loose();
        hanging.spread(s, s.bridges.in & ~(1 << bridge));
        return hanging.loose() - with;
    }

    public boolean order(int digits) {
        if (!now.setOrder(digits)) {
            refused[NOT_AS_TOLD]++;
            return false;
        }
        return true;
    }

    public int paint(int x, int y) {
        return now.painter(x, y);
    }

    public int left(int what) {
        if (now.toldSet() == 0) {
            return NONE;
        }
        if (what == 0) {
            return now.leftOfOrder();
        }
        int least = now.leastLeft();
        if (what == 1) {
            return least;
        }
        return what >= 10 ? now.leastOrder(what - 10) : NONE;
    }

    public int alike(int a, int b, int turns, int dx, int dy) {
        Sheet from = toldSheet(a);
        Sheet to = toldSheet(b);
        if (from == null || to == null || turns < 0 || turns > 3) {
            return NONE;
        }
        if (dx < -MOVE || dx > MOVE || dy < -MOVE || dy > MOVE) {
            return NONE;
        }
        return alikeSquares(from, to, turns, dx, dy);
    }

    public int turn(int a, int b) {
        Sheet from = toldSheet(a);
        Sheet to = toldSheet(b);
        if (from == null || to == null) {
            return NONE;
        }
        int best = NONE;
        int most = NONE;
        for (int turns = 0; turns < 4; turns++) {
            int same = alikeSquares(from, to, turns, 0, 0);
            if (same > most) {
                most = same;
                best = turns;
            }
        }
        return best;
    }

    public long read(int sheet, int y, int what) {
        Sheet s = toldSheet(sheet);
        if (s == null || y < 0 || y >= s.high) {
            return NONE;
        }
        reading.cover(s, y);
        return reading.told(what);
    }

    public int hole(int sheet, int k, int what) {
        Sheet s = toldSheet(sheet);
        if (s == null) {
            return NONE;
        }
        findHoles(s);
        return parts.told(k, what);
    }

    public int cut(int sheet, int what) {
        Sheet s = toldSheet(sheet);
        if (s == null) {
            return NONE;
        }
        findHoles(s);
        if (parts.number > MOST_HOLES) {
            return NONE;
        }
        if (what != 0 && (what < 10 || what - 10 >= parts.number)) {
            return NONE;
        }
        cutting.plan(s, parts, hanging);
        return what == 0 ? cutting.greatest() : cutting.places[what - 10];
    }

    public int image() {
        if (imageCount >= IMAGES) {
            refused[NO_ROOM]++;
            return NONE;
        }
        images[imageCount].copyFrom(now);
        imageCount++;
        return imageCount - 1;
    }

    public boolean back(int image) {
        if (image < 0 || image >= imageCount) {
            refused[NOT_AS_TOLD]++;
            return false;
        }
        now.copyFrom(images[image]);
        return true;
    }

    public int count(int what) {
        switch (what) {
            case 0: return Integer.bitCount(now.toldSet());
            case 1: return tapeLength;
            case 2: return imageCount;
            case 3: return now.orderDigits();
            case 10: return refused[NOT_AS_TOLD];
            case 11: return refused[NO_ROOM];
            case 12: return refused[FAULTY];
            default: return NONE;
        }
    }

    private Sheet toldSheet(int number) {
        if (number < 0 || number >= SHEETS || !now.sheets[number].told) {
            return null;
        }
        return now.sheets[number];
    }

    private void findPieces(Sheet s, int set) {
        hanging.spread(s, set);
        parts.split(hanging.fallen);
    }

    private void findHoles(Sheet s) {
        for (int y = 0; y < EDGE; y++) {
            open[y] = s.openRow(y);
        }
        parts.split(open);
    }

    /** What may be joined is judged without any bridges, whichever are in. */
    private boolean joinable(Sheet s) {
        findPieces(s, 0);
        return parts.number <= MOST_PIECES;
    }

    private void walkHeld(Sheet s) {
        hanging.spread(s, s.bridges.in);
        for (int y = 0; y < EDGE; y++) {
            anchors[y] = s.rimRow(y);
        }
        hanging.walk(hanging.tin, anchors);
    }

    private void walkFrom(Sheet s, int x, int y) {
        hanging.spread(s, s.bridges.in);
        Arrays.fill(anchors, 0);
        anchors[y] = 1 << x;
        hanging.walk(hanging.tin, anchors);
    }

    private int sagOf(Sheet s, int x, int y) {
        walkFrom(s, x, y);
        return hanging.greatestTongue(y * EDGE + x);
    }

    private int sagsAbove(Sheet s, int x, int y, int n) {
        walkFrom(s, x, y);
        return hanging.tonguesAbove(Math.max(n, 0), y * EDGE + x);
    }

    private static int alikeSquares(Sheet from, Sheet to, int turns, int dx, int dy) {
        int same = 0;
        for (int y = 0; y < from.high; y++) {
            int tin = from.tinRow(y, from.bridges.in);
            for (int x = 0; x < from.wide; x++) {
                int tx = turnedX(x, y, from.wide, from.high, turns) + dx;
                int ty = turnedY(x, y, from.wide, from.high, turns) + dy;
                if (to.has(tx, ty) && ((tin >> x) & 1) == ((to.tinRow(ty, to.bridges.in) >> tx) & 1)) {
                    same++;
                }
            }
        }
        return same;
    }

    /** A quarter to the right brings x, y to high - 1 - y, x; two and three quarters are that again. */
    private static int turnedX(int x, int y, int wide, int high, int turns) {
        switch (turns) {
            case 1: return high - 1 - y;
            case 2: return wide - 1 - x;
            case 3: return y;
            default: return x;
        }
    }

    private static int turnedY(int x, int y, int wide, int high, int turns) {
        switch (turns) {
            case 1: return x;
            case 2: return high - 1 - y;
            case 3: return wide - 1 - x;
            default: return y;
        }
    }

    /** The square beside a square; rows are bits, so squares outside a smaller sheet are simply never set. */
    private static int beside(int square, int side) {
        int x = square % EDGE + STEP_X[side];
        int y = square / EDGE + STEP_Y[side];
        return x < 0 || x >= EDGE || y < 0 || y >= EDGE ? NONE : y * EDGE + x;
    }

    private static boolean isSet(int[] rows, int square) {
        return ((rows[square / EDGE] >> (square % EDGE)) & 1) != 0;
    }

    /** The sheets over one another in their order: all that an image keeps. */
    private static final class Pile {
        final Sheet[] sheets = new Sheet[SHEETS];
        final int[] places = new int[SHEETS];
        /** For each set of told sheets, the least that is left of them when they are the latest. */
        private final int[] least = new int[1 << SHEETS];

        Pile() {
            for (int k = 0; k < SHEETS; k++) {
                sheets[k] = new Sheet();
                places[k] = k;
            }
        }

        void copyFrom(Pile other) {
            for (int k = 0; k < SHEETS; k++) {
                sheets[k].copyFrom(other.sheets[k]);
                places[k] = other.places[k];
            }
        }

        int toldSet() {
            int told = 0;
            for (int k = 0; k < SHEETS; k++) {
                told |= sheets[k].told ? 1 << k : 0;
            }
            return told;
        }

        boolean setOrder(int digits) {
            if (!namesEachOnce(digits)) {
                return false;
            }
            int rest = digits;
            for (int k = SHEETS - 1; k >= 0; k--) {
                places[k] = rest % 10;
                rest /= 10;
            }
            return true;
        }

        private static boolean namesEachOnce(int digits) {
            if (digits < 0 || digits > 999999) {
                return false;
            }
            int rest = digits;
            int found = 0;
            for (int k = 0; k < SHEETS; k++) {
                found |= 1 << (rest % 10);
                rest /= 10;
            }
            return found == (1 << SHEETS) - 1;
        }

        int orderDigits() {
            int digits = 0;
            for (int k = 0; k < SHEETS; k++) {
                digits = digits * 10 + places[k];
            }
            return digits;
        }

        int painter(int x, int y) {
            for (int k = SHEETS - 1; k >= 0; k--) {
                Sheet s = sheets[places[k]];
                if (s.told && s.has(x, y) && !s.isTin(x, y)) {
                    return places[k];
                }
            }
            return NONE;
        }

        int leftOfOrder() {
            int sum = 0;
            int later = 0;
            for (int k = SHEETS - 1; k >= 0; k--) {
                int number = places[k];
                if (sheets[number].told) {
                    sum += leftOf(number, later);
                    later |= 1 << number;
                }
            }
            return sum;
        }

        /** The worth of what bridges of a sheet keep from paint, if the sheets of a set come later. */
        private int leftOf(int number, int later) {
            Sheet s = sheets[number];
            int sum = 0;
            for (int y = 0; y < s.high; y++) {
                int row = s.through[y] & s.tinRow(y, s.bridges.in);
                for (int k = 0; k < SHEETS && row != 0; k++) {
                    if (((later >> k) & 1) != 0) {
                        row &= ~sheets[k].openRow(y);
                    }
                }
                for (int x = 0; x < EDGE && row != 0; x++) {
                    sum += ((row >> x) & 1) != 0 ? s.worth[y * EDGE + x] : 0;
                }
            }
            return sum;
        }

        int leastLeft() {
            int told = toldSet();
            least[0] = 0;
            for (int set = 1; set <= told; set++) {
                if ((set & ~told) == 0) {
                    weighAhead(set);
                }
            }
            return least[told];
        }

        /**
         * Of a set of the latest sheets the one that comes best ahead of the others, of several the least;
         * what is left so is kept for the greater sets.
         */
        private int weighAhead(int set) {
            int best = NONE;
            for (int k = 0; k < SHEETS; k++) {
                if (((set >> k) & 1) != 0) {
                    int later = set & ~(1 << k);
                    int sum = leftOf(k, later) + least[later];
                    if (best == NONE || sum < least[set]) {
                        best = k;
                        least[set] = sum;
                    }
                }
            }
            return best;
        }

        /** Asked behind leastLeft(). */
        int leastOrder(int place) {
            int set = toldSet();
            int number = NONE;
            for (int k = 0; k <= place && k <= SHEETS; k++) {
                if (set == 0) {
                    return NONE;
                }
                number = weighAhead(set);
                set &= ~(1 << number);
            }
            return number;
        }
    }

    /** One sheet as its text and later changes tell it. */
    private static final class Sheet {
        boolean told = false;
        int wide = 0;
        int high = 0;
        int statements = 0;
        int held = 0;
        int brush = 0;
        int wear = 0;
        final int[] through = new int[EDGE];
        final int[] worth = new int[SQUARES];
        final Bridges bridges = new Bridges();
        /** Shapes stay as they are told: bits of t, a row behind the other. */
        int shapeNumber = 0;
        final int[] shapeWide = new int[SHAPES];
        final int[] shapeHigh = new int[SHAPES];
        final int[] shapeRows = new int[SHAPES * SHAPE_EDGE];

        void begin(int newWide, int newHigh) {
            told = true;
            wide = newWide;
            high = newHigh;
            statements = 0;
            held = 15;
            brush = 0;
            wear = 0;
            Arrays.fill(through, 0);
            Arrays.fill(worth, 1);
            shapeNumber = 0;
            bridges.begin();
        }

        void copyFrom(Sheet other) {
            told = other.told;
            wide = other.wide;
            high = other.high;
            statements = other.statements;
            held = other.held;
            brush = other.brush;
            wear = other.wear;
            System.arraycopy(other.through, 0, through, 0, EDGE);
            System.arraycopy(other.worth, 0, worth, 0, SQUARES);
            bridges.copyFrom(other.bridges);
            shapeNumber = other.shapeNumber;
            System.arraycopy(other.shapeWide, 0, shapeWide, 0, SHAPES);
            System.arraycopy(other.shapeHigh, 0, shapeHigh, 0, SHAPES);
            System.arraycopy(other.shapeRows, 0, shapeRows, 0, SHAPES * SHAPE_EDGE);
        }

        boolean has(int x, int y) {
            return x >= 0 && x < wide && y >= 0 && y < high;
        }

        void setThrough(int x, int y, boolean open) {
            if (has(x, y)) {
                through[y] = open ? through[y] | (1 << x) : through[y] & ~(1 << x);
            }
        }

        int fullRow(int y) {
            return y >= 0 && y < high ? (1 << wide) - 1 : 0;
        }

        int tinRow(int y, int set) {
            int row = fullRow(y) & ~through[y];
            for (int b = 0; b < bridges.number; b++) {
                if (((set >> b) & 1) != 0) {
                    row |= bridges.rows[b * EDGE + y];
                }
            }
            return row;
        }

        int openRow(int y) {
            return fullRow(y) & ~tinRow(y, bridges.in);
        }

        boolean isTin(int x, int y) {
            return has(x, y) && ((tinRow(y, bridges.in) >> x) & 1) != 0;
        }

        int tinSquares(int set) {
            int squares = 0;
            for (int y = 0; y < high; y++) {
                squares += Integer.bitCount(tinRow(y, set));
            }
            return squares;
        }

        /** The squares of a row that lie on the rim of a side the sheet is held by. */
        int rimRow(int y) {
            int row = 0;
            if (((held & 1) != 0 && y == 0) || ((held & 4) != 0 && y == high - 1)) {
                row = (1 << wide) - 1;
            }
            if ((held & 2) != 0) {
                row |= 1 << (wide - 1);
            }
            if ((held & 8) != 0) {
                row |= 1;
            }
            return row & fullRow(y);
        }

        int bridgedThrough(int bridge) {
            int squares = 0;
            for (int y = 0; y < high; y++) {
                squares += Integer.bitCount(bridges.rows[bridge * EDGE + y] & through[y]);
            }
            return squares;
        }

        /** The bridges of a set that show at a square: what the next sheet lets paint hides the hidden ones. */
        int showing(int x, int y, int set, Sheet next) {
            if (((through[y] >> x) & 1) == 0) {
                return 0;
            }
            int over = bridges.over(x, y) & set;
            boolean covered = next != null && next.has(x, y) && ((next.through[y] >> x) & 1) != 0;
            return covered ? over & ~bridges.hidden : over;
        }

        int seen(int set, Sheet next) {
            int sum = 0;
            for (int y = 0; y < high; y++) {
                for (int x = 0; x < wide; x++) {
                    if (showing(x, y, set, next) != 0) {
                        sum += worth[y * EDGE + x];
                    }
                }
            }
            return sum;
        }

        void openShape(int newWide) {
            if (shapeNumber < SHAPES) {
                shapeWide[shapeNumber] = newWide;
                shapeHigh[shapeNumber] = 0;
                shapeNumber++;
            }
        }

        void addShapeRow(int bits) {
            int shape = shapeNumber - 1;
            if (shape >= 0 && shapeHigh[shape] < SHAPE_EDGE) {
                shapeRows[shape * SHAPE_EDGE + shapeHigh[shape]] = bits;
                shapeHigh[shape]++;
            }
        }

        void putShape(int shape, int leftX, int topY, int turns) {
            for (int y = 0; y < shapeHigh[shape]; y++) {
                for (int x = 0; x < shapeWide[shape]; x++) {
                    if (((shapeRows[shape * SHAPE_EDGE + y] >> x) & 1) != 0) {
                        int toX = leftX + turnedX(x, y, shapeWide[shape], shapeHigh[shape], turns);
                        int toY = topY + turnedY(x, y, shapeWide[shape], shapeHigh[shape], turns);
                        setThrough(toX, toY, true);
                    }
                }
            }
        }

        void setWorth(int x, int y, int value) {
            if (has(x, y)) {
                worth[y * EDGE + x] = value;
            }
        }

        /** Squares in a line that belong to the newest bridge; those outside the sheet don't count. */
        void bridgeLine(int fromX, int fromY, int side, int length) {
            for (int k = 0; k < length; k++) {
                int x = fromX + k * STEP_X[side];
                int y = fromY + k * STEP_Y[side];
                if (has(x, y)) {
                    bridges.addSquare(x, y);
                }
            }
        }
    }

    /** The bridges of a sheet: their squares in the sheet, and which are in. */
    private static final class Bridges {
        static final int STRAIGHT = 0;
        static final int BROAD = 1;
        static final int CORNER = 2;
        static final int TOLD = 3;

        int number = 0;
        int in = 0;
        int hidden = 0;
        final int[] kind = new int[BRIDGES];
        final int[] lasts = new int[BRIDGES];
        final int[] rows = new int[BRIDGES * EDGE];

        void begin() {
            number = 0;
            in = 0;
            hidden = 0;
            Arrays.fill(rows, 0);
        }

        void copyFrom(Bridges other) {
            number = other.number;
            in = other.in;
            hidden = other.hidden;
            System.arraycopy(other.kind, 0, kind, 0, BRIDGES);
            System.arraycopy(other.lasts, 0, lasts, 0, BRIDGES);
            System.arraycopy(other.rows, 0, rows, 0, BRIDGES * EDGE);
        }

        boolean has(int bridge) {
            return bridge >= 0 && bridge < number;
        }

        void open(int newKind, int newLasts) {
            if (number < BRIDGES) {
                kind[number] = newKind;
                lasts[number] = newLasts;
                in |= 1 << number;
                number++;
            }
        }

        void addSquare(int x, int y) {
            if (number > 0) {
                rows[(number - 1) * EDGE + y] |= 1 << x;
            }
        }

        void hideNewest() {
            if (number > 0) {
                hidden |= 1 << (number - 1);
            }
        }

        void lastBySquares(int each) {
            if (number > 0) {
                lasts[number - 1] = each * squares(number - 1);
            }
        }

        int squares(int bridge) {
            int squares = 0;
            for (int y = 0; y < EDGE; y++) {
                squares += Integer.bitCount(rows[bridge * EDGE + y]);
            }
            return squares;
        }

        int over(int x, int y) {
            int set = 0;
            for (int b = 0; b < number; b++) {
                set |= ((rows[b * EDGE + y] >> x) & 1) << b;
            }
            return set;
        }

        int firstBelow(int wear) {
            for (int b = 0; b < number; b++) {
                if (((in >> b) & 1) != 0 && lasts[b] < wear) {
                    return b;
                }
            }
            return NONE;
        }

        int leastLasting() {
            int best = NONE;
            for (int b = 0; b < number; b++) {
                if (((in >> b) & 1) != 0 && (best == NONE || lasts[b] < lasts[best])) {
                    best = b;
                }
            }
            return best;
        }
    }

    /** A text cut into tokens, all ahead of the telling; behind the last stands END at the text's length. */
    private static final class Tokens {
        static final int END = 0;
        static final int WORD = 1;
        static final int NUMBER = 2;
        static final int OTHER = 3;

        static final int PLATE = 0;
        static final int ROW = 1;
        static final int SHAPE = 2;
        static final int PUT = 3;
        static final int TURNED = 4;
        static final int HOLD = 5;
        static final int WORTH = 6;
        static final int TO = 7;
        static final int BRUSH = 8;
        static final int WEAR = 9;
        static final int BRIDGE = 10;
        static final int STRAIGHT = 11;
        static final int BROAD = 12;
        static final int CORNER = 13;
        static final int TOLD = 14;
        static final int HIDDEN = 15;
        /** The sides are the last four, from north on to the right. */
        static final int NORTH = 16;
        /** In the order of their numbers, a blank behind each. */
        static final String KEYWORDS =
            "plate row shape put turned hold worth to brush wear bridge straight broad corner told hidden north east south west ";
        static final int DIGITS = 4;

        final int[] text = new int[TAPE];
        final int[] kind = new int[TAPE + 1];
        final int[] start = new int[TAPE + 1];
        final int[] size = new int[TAPE + 1];
        /** Of a number what it is (NONE: too many digits), of a word which keyword (NONE), of others the byte. */
        final int[] value = new int[TAPE + 1];
        int number = 0;

        void split(int[] tape, int n) {
            System.arraycopy(tape, 0, text, 0, n);
            number = 0;
            int end = 0;
            for (int p = 0; p < n; p++) {
                if (p >= end && text[p] != ' ' && text[p] != 10) {
                    end = p + lengthAt(p, n);
                    addToken(p, end - p);
                }
            }
            kind[number] = END;
            start[number] = n;
            size[number] = 0;
            value[number] = NONE;
        }

        private int lengthAt(int from, int n) {
            int sort = kindOf(text[from]);
            if (sort == OTHER) {
                return 1;
            }
            int p = from + 1;
            while (p < n && kindOf(text[p]) == sort) {
                p++;
            }
            return p - from;
        }

        private static int kindOf(int sign) {
            if (sign >= 'a' && sign <= 'z') {
                return WORD;
            }
            return sign >= '0' && sign <= '9' ? NUMBER : OTHER;
        }

        private void addToken(int from, int length) {
            kind[number] = kindOf(text[from]);
            start[number] = from;
            size[number] = length;
            if (kind[number] == WORD) {
                value[number] = keywordAt(from, length);
            } else {
                value[number] = kind[number] == NUMBER ? numberAt(from, length) : text[from];
            }
            number++;
        }

        private int numberAt(int from, int length) {
            if (length > DIGITS) {
                return NONE;
            }
            int sum = 0;
            for (int p = from; p < from + length; p++) {
                sum = sum * 10 + text[p] - '0';
            }
            return sum;
        }

        private int keywordAt(int from, int length) {
            int keyword = 0;
            int begin = 0;
            for (int p = 0; p < KEYWORDS.length(); p++) {
                if (KEYWORDS.charAt(p) == ' ') {
                    if (p - begin == length && isKeyword(from, begin, length)) {
                        return keyword;
                    }
                    keyword++;
                    begin = p + 1;
                }
            }
            return NONE;
        }

        private boolean isKeyword(int from, int begin, int length) {
            for (int k = 0; k < length; k++) {
                if (text[from + k] != KEYWORDS.charAt(begin + k)) {
                    return false;
                }
            }
            return true;
        }
    }

    /**
     * Tells a sheet by a text. What is taken goes on to the next token, what can't be taken stays:
     * so a telling that fails stands at the token of the fault.
     */
    private static final class Teller {
        private final Tokens tokens = new Tokens();
        private final long[] names = new long[SHAPES];
        private int at = 0;
        private int number = 0;
        private int x = 0;
        private int y = 0;
        private int squares = 0;
        private int squaresLong = 0;

        boolean tell(int[] tape, int n, Sheet s) {
            tokens.split(tape, n);
            at = 0;
            if (!tellSize(s)) {
                return false;
            }
            for (int k = 0; k < STATEMENTS && tokens.kind[at] != Tokens.END; k++) {
                if (!tellStatement(s) || !takeSign(';')) {
                    return false;
                }
                s.statements++;
            }
            return tokens.kind[at] == Tokens.END;
        }

        int place() {
            return tokens.start[at];
        }

        private boolean tellSize(Sheet s) {
            if (!takeKeyword(Tokens.PLATE) || !takeNumber(1, EDGE)) {
                return false;
            }
            int wide = number;
            if (!takeNumber(1, EDGE)) {
                return false;
            }
            s.begin(wide, number);
            return takeSign(';');
        }

        private boolean tellStatement(Sheet s) {
            if (takeKeyword(Tokens.ROW)) {
                return tellRow(s);
            }
            if (takeKeyword(Tokens.SHAPE)) {
                return tellShape(s);
            }
            if (takeKeyword(Tokens.PUT)) {
                return tellPut(s);
            }
            if (takeKeyword(Tokens.HOLD)) {
                return tellHold(s);
            }
            if (takeKeyword(Tokens.WORTH)) {
                return tellWorth(s);
            }
            if (takeKeyword(Tokens.BRUSH)) {
                return tellBrush(s);
            }
            if (takeKeyword(Tokens.WEAR)) {
                return tellWear(s);
            }
            return s.bridges.number < BRIDGES && takeKeyword(Tokens.BRIDGE) && tellBridge(s);
        }

        private boolean tellRow(Sheet s) {
            if (!takeNumber(0, s.high - 1)) {
                return false;
            }
            int row = number;
            if (!takeSquares(1, s.wide)) {
                return false;
            }
            int told = (1 << squaresLong) - 1;
            s.through[row] = (s.through[row] & ~told) | squares;
            return true;
        }

        private boolean tellShape(Sheet s) {
            long name = nameHere();
            if (name == 0 || s.shapeNumber >= SHAPES || shapeNamed(name, s) != NONE) {
                return false;
            }
            names[s.shapeNumber] = name;
            at++;
            // a shape may be greater than the sheet: its words have their own bound, not that of a row
            if (!takeSquares(1, SHAPE_EDGE)) {
                return false;
            }
            int length = squaresLong;
            s.openShape(length);
            s.addShapeRow(squares);
            for (int k = 1; k < SHAPE_EDGE && tokens.kind[at] == Tokens.WORD; k++) {
                if (!takeSquares(length, length)) {
                    return false;
                }
                s.addShapeRow(squares);
            }
            return true;
        }

        private boolean tellPut(Sheet s) {
            int shape = shapeNamed(nameHere(), s);
            if (shape == NONE) {
                return false;
            }
            at++;
            if (!takePlace(s)) {
                return false;
            }
            int turns = 0;
            if (takeKeyword(Tokens.TURNED)) {
                if (!takeNumber(0, 3)) {
                    return false;
                }
                turns = number;
            }
            s.putShape(shape, x, y, turns);
            return true;
        }

        private boolean tellHold(Sheet s) {
            if (!takeSide()) {
                return false;
            }
            s.held = 1 << number;
            for (int k = 0; k < TAPE && takeSide(); k++) {
                s.held |= 1 << number;
            }
            return true;
        }

        private boolean tellWorth(Sheet s) {
            if (!takePlace(s) || !takeKeyword(Tokens.TO)) {
                return false;
            }
            int left = x;
            int top = y;
            if (!takeNumber(left, s.wide - 1)) {
                return false;
            }
            int right = number;
            if (!takeNumber(top, s.high - 1)) {
                return false;
            }
            int bottom = number;
            if (!takeNumber(0, 99)) {
                return false;
            }
            for (int row = top; row <= bottom; row++) {
                for (int column = left; column <= right; column++) {
                    s.setWorth(column, row, number);
                }
            }
            return true;
        }

        private boolean tellBrush(Sheet s) {
            if (!takeNumber(0, 400)) {
                return false;
            }
            s.brush = number;
            return true;
        }

        private boolean tellWear(Sheet s) {
            if (!takeNumber(0, 999)) {
                return false;
            }
            s.wear = number;
            return true;
        }

        private boolean tellBridge(Sheet s) {
            boolean told = false;
            if (takeKeyword(Tokens.STRAIGHT)) {
                told = tellStraight(s);
            } else if (takeKeyword(Tokens.BROAD)) {
                told = tellBroad(s);
            } else if (takeKeyword(Tokens.CORNER)) {
                told = tellCorner(s);
            } else if (takeKeyword(Tokens.TOLD)) {
                told = tellTold(s);
            }
            if (told && takeKeyword(Tokens.HIDDEN)) {
                s.bridges.hideNewest();
            }
            return told;
        }

        private boolean tellStraight(Sheet s) {
            if (!takePlace(s) || !takeSide()) {
                return false;
            }
            int side = number;
            if (!takeNumber(1, EDGE)) {
                return false;
            }
            s.bridges.open(Bridges.STRAIGHT, 100);
            s.bridgeLine(x, y, side, number);
            return true;
        }

        private boolean tellBroad(Sheet s) {
            if (!takePlace(s) || !takeSide()) {
                return false;
            }
            int side = number;
            if (!takeNumber(1, EDGE)) {
                return false;
            }
            int length = number;
            if (!takeNumber(2, 4)) {
                return false;
            }
            s.bridges.open(Bridges.BROAD, 100 * number);
            int right = (side + 1) % SIDES;
            for (int k = 0; k < number; k++) {
                s.bridgeLine(x + k * STEP_X[right], y + k * STEP_Y[right], side, length);
            }
            return true;
        }

        private boolean tellCorner(Sheet s) {
            if (!takePlace(s) || !takeSide()) {
                return false;
            }
            int side = number;
            if (!takeNumber(1, EDGE)) {
                return false;
            }
            int length = number;
            if (!takeSide()) {
                return false;
            }
            int second = number;
            if (!takeNumber(1, EDGE)) {
                return false;
            }
            s.bridges.open(Bridges.CORNER, 80);
            s.bridgeLine(x, y, side, length);
            int lastX = x + (length - 1) * STEP_X[side];
            int lastY = y + (length - 1) * STEP_Y[side];
            s.bridgeLine(lastX + STEP_X[second], lastY + STEP_Y[second], second, number);
            return true;
        }

        private boolean tellTold(Sheet s) {
            if (!takePlace(s)) {
                return false;
            }
            s.bridges.open(Bridges.TOLD, 0);
            s.bridges.addSquare(x, y);
            for (int k = 1; k < TOLD_SQUARES && takeSign(','); k++) {
                if (!takePlace(s)) {
                    return false;
                }
                s.bridges.addSquare(x, y);
            }
            s.bridges.lastBySquares(60);
            return true;
        }

        private boolean takeKeyword(int keyword) {
            if (tokens.kind[at] != Tokens.WORD || tokens.value[at] != keyword) {
                return false;
            }
            at++;
            return true;
        }

        private boolean takeSign(int sign) {
            if (tokens.kind[at] != Tokens.OTHER || tokens.value[at] != sign) {
                return false;
            }
            at++;
            return true;
        }

        private boolean takeNumber(int least, int most) {
            int value = tokens.value[at];
            if (tokens.kind[at] != Tokens.NUMBER || value < least || value > most) {
                return false;
            }
            number = value;
            at++;
            return true;
        }

        private boolean takePlace(Sheet s) {
            if (!takeNumber(0, s.wide - 1)) {
                return false;
            }
            x = number;
            if (!takeNumber(0, s.high - 1)) {
                return false;
            }
            y = number;
            return true;
        }

        private boolean takeSide() {
            if (tokens.kind[at] != Tokens.WORD || tokens.value[at] < Tokens.NORTH) {
                return false;
            }
            number = tokens.value[at] - Tokens.NORTH;
            at++;
            return true;
        }

        private boolean takeSquares(int least, int most) {
            int length = tokens.size[at];
            if (tokens.kind[at] != Tokens.WORD || length < least || length > most) {
                return false;
            }
            int bits = 0;
            for (int k = 0; k < length; k++) {
                int letter = tokens.text[tokens.start[at] + k];
                if (letter != 's' && letter != 't') {
                    return false;
                }
                bits |= letter == 't' ? 1 << k : 0;
            }
            squares = bits;
            squaresLong = length;
            at++;
            return true;
        }

        /** The word here as a number, a letter a digit of 1 to 26; 0: it is no name. */
        private long nameHere() {
            if (tokens.kind[at] != Tokens.WORD || tokens.size[at] > 8 || tokens.value[at] != NONE) {
                return 0;
            }
            long name = 0;
            for (int k = 0; k < tokens.size[at]; k++) {
                name = name * 27 + tokens.text[tokens.start[at] + k] - 'a' + 1;
            }
            return name;
        }

        private int shapeNamed(long name, Sheet s) {
            for (int k = 0; k < s.shapeNumber; k++) {
                if (names[k] == name) {
                    return k;
                }
            }
            return NONE;
        }
    }

    /**
     * Which tin hangs, found for whole rows at once; and the tongues of all necks in one walk in depth: what
     * stands below a square in the walk, and reaches nothing entered ahead of that square, hangs by it alone.
     * The frame that holds the sheet counts as entered ahead of all.
     */
    private static final class Hanging {
        /** Each square is looked from to four sides, and left once. */
        static final int STEPS = SQUARES * (SIDES + 1);

        final int[] tin = new int[EDGE];
        final int[] hung = new int[EDGE];
        final int[] fallen = new int[EDGE];
        final int[] tongue = new int[SQUARES];
        int reached = 0;
        private final int[] entered = new int[SQUARES];
        private final int[] reach = new int[SQUARES];
        private final int[] below = new int[SQUARES];
        private final int[] parent = new int[SQUARES];
        private final int[] side = new int[SQUARES];

        void spread(Sheet s, int set) {
            for (int y = 0; y < EDGE; y++) {
                tin[y] = s.tinRow(y, set);
                hung[y] = alongRow(tin[y] & s.rimRow(y), tin[y]);
            }
            boolean more = true;
            for (int sweep = 0; sweep < SQUARES && more; sweep++) {
                more = false;
                for (int y = 1; y < EDGE; y++) {
                    if (pull(y, y - 1)) {
                        more = true;
                    }
                }
                for (int y = EDGE - 2; y >= 0; y--) {
                    if (pull(y, y + 1)) {
                        more = true;
                    }
                }
            }
            for (int y = 0; y < EDGE; y++) {
                fallen[y] = tin[y] & ~hung[y];
            }
        }

        private boolean pull(int y, int from) {
            int fresh = hung[from] & tin[y] & ~hung[y];
            if (fresh == 0) {
                return false;
            }
            hung[y] |= alongRow(fresh, tin[y]);
            return true;
        }

        /** All of the row's runs that hold one of some bits, by doubled steps to both sides. */
        private static int alongRow(int bits, int row) {
            int up = bits;
            int down = bits;
            int upRun = row;
            int downRun = row;
            for (int step = 1; step < EDGE; step *= 2) {
                up |= upRun & (up << step);
                upRun &= upRun << step;
                down |= downRun & (down >> step);
                downRun &= downRun >> step;
            }
            return up | down;
        }

        int loose() {
            int squares = 0;
            for (int y = 0; y < EDGE; y++) {
                squares += Integer.bitCount(fallen[y]);
            }
            return squares;
        }

        void walk(int[] rows, int[] anchors) {
            Arrays.fill(tongue, 0);
            Arrays.fill(entered, 0);
            reached = 0;
            for (int square = 0; square < SQUARES; square++) {
                if (entered[square] == 0 && isSet(rows, square) && isSet(anchors, square)) {
                    follow(square, rows, anchors);
                }
            }
        }

        private void follow(int from, int[] rows, int[] anchors) {
            enter(from, NONE, anchors);
            int at = from;
            for (int step = 0; step < STEPS && at != NONE; step++) {
                if (side[at] >= SIDES) {
                    at = leave(at);
                    continue;
                }
                int to = beside(at, side[at]);
                side[at]++;
                if (to == NONE || !isSet(rows, to)) {
                    continue;
                }
                if (entered[to] == 0) {
                    enter(to, at, anchors);
                    at = to;
                } else {
                    reach[at] = Math.min(reach[at], entered[to]);
                }
            }
        }

        private void enter(int square, int from, int[] anchors) {
            reached++;
            entered[square] = reached;
            reach[square] = isSet(anchors, square) ? 0 : reached;
            below[square] = 1;
            parent[square] = from;
            side[square] = 0;
        }

        private int leave(int square) {
            int up = parent[square];
            if (up == NONE) {
                return NONE;
            }
            below[up] += below[square];
            if (reach[square] >= entered[up]) {
                tongue[up] += below[square];
            } else {
                reach[up] = Math.min(reach[up], reach[square]);
            }
            return up;
        }

        int greatestTongue(int except) {
            int greatest = 0;
            for (int square = 0; square < SQUARES; square++) {
                if (square != except) {
                    greatest = Math.max(greatest, tongue[square]);
                }
            }
            return greatest;
        }

        /** What is no neck has tongue 0 here: n is not below 0. */
        int tonguesAbove(int n, int except) {
            int above = 0;
            for (int square = 0; square < SQUARES; square++) {
                if (square != except && tongue[square] > n) {
                    above++;
                }
            }
            return above;
        }
    }

    /** Squares joined side by side, numbered by their first squares: pieces, or holes. */
    private static final class Parts {
        int number = 0;
        final int[] partOf = new int[SQUARES];
        final int[] size = new int[SQUARES];
        private final int[] start = new int[SQUARES];
        private final int[] queue = new int[SQUARES];
        private final int[] region = new int[EDGE];
        private final int[] border = new int[EDGE];

        void split(int[] rows) {
            Arrays.fill(partOf, NONE);
            number = 0;
            for (int square = 0; square < SQUARES; square++) {
                if (partOf[square] == NONE && isSet(rows, square)) {
                    gather(square, rows);
                    number++;
                }
            }
        }

        private void gather(int from, int[] rows) {
            start[number] = from;
            partOf[from] = number;
            queue[0] = from;
            int tail = 1;
            for (int head = 0; head < tail && head < SQUARES; head++) {
                for (int side = 0; side < SIDES; side++) {
                    int to = beside(queue[head], side);
                    if (to != NONE && partOf[to] == NONE && isSet(rows, to)) {
                        partOf[to] = number;
                        queue[tail] = to;
                        tail++;
                    }
                }
            }
            size[number] = tail;
        }

        boolean has(int part) {
            return part >= 0 && part < number;
        }

        int told(int part, int what) {
            if (part == NONE && what == 0) {
                return number;
            }
            if (!has(part)) {
                return NONE;
            }
            switch (what) {
                case 0: return size[part];
                case 1: return start[part] % EDGE;
                case 2: return start[part] / EDGE;
                default: return NONE;
            }
        }

        /** Grows the piece by a border of one square at a time until the border meets other tin. */
        int gap(int part, Sheet s, int[] tin) {
            for (int y = 0; y < EDGE; y++) {
                region[y] = rowOf(part, y);
            }
            for (int squares = 0; squares < SQUARES; squares++) {
                int found = 0;
                int met = 0;
                for (int y = 0; y < EDGE; y++) {
                    border[y] = borderRow(y) & s.fullRow(y);
                    found |= border[y];
                    met |= border[y] & tin[y];
                }
                if (met != 0) {
                    return squares;
                }
                if (found == 0) {
                    return NONE;
                }
                for (int y = 0; y < EDGE; y++) {
                    region[y] |= border[y];
                }
            }
            return NONE;
        }

        int rowOf(int part, int y) {
            int row = 0;
            for (int x = 0; x < EDGE; x++) {
                if (partOf[y * EDGE + x] == part) {
                    row |= 1 << x;
                }
            }
            return row;
        }

        private int borderRow(int y) {
            int above = y > 0 ? region[y - 1] : 0;
            int under = y < EDGE - 1 ? region[y + 1] : 0;
            return (above | under | (region[y] << 1) | (region[y] >> 1)) & ~region[y];
        }
    }

    /**
     * The least price at which sets of pieces and one more square are joined, for every set and square
     * (Dreyfus and Wagner's way); the frame that holds the sheet is one more square, beside the rim.
     */
    private static final class Joining {
        static final int FRAME = SQUARES;
        static final int NODES = SQUARES + 1;
        static final int FAR = 1000000;

        private final int[] cost = new int[(1 << MOST_PIECES) * NODES];
        /** Of a square that it becomes tin; NONE: outside the sheet. */
        private final int[] price = new int[NODES];
        private final int[] rim = new int[EDGE];
        private int all = 0;

        void join(Sheet s, Parts pieces, boolean byWorth) {
            all = (1 << Math.min(pieces.number, MOST_PIECES)) - 1;
            setPrices(s, byWorth);
            for (int set = 1; set <= all; set++) {
                begin(set, pieces);
                for (int part = (set - 1) & set; part > (set ^ part); part = (part - 1) & set) {
                    merge(set, part);
                }
                relax(set);
            }
        }

        private void setPrices(Sheet s, boolean byWorth) {
            Arrays.fill(price, NONE);
            price[FRAME] = 0;
            for (int y = 0; y < s.high; y++) {
                for (int x = 0; x < s.wide; x++) {
                    int square = y * EDGE + x;
                    int worth = byWorth ? s.worth[square] : 1;
                    price[square] = ((s.through[y] >> x) & 1) != 0 ? worth : 0;
                }
            }
            for (int y = 0; y < EDGE; y++) {
                rim[y] = s.rimRow(y);
            }
        }

        private void begin(int set, Parts pieces) {
            int base = set * NODES;
            for (int square = 0; square < SQUARES; square++) {
                int piece = pieces.partOf[square];
                cost[base + square] = piece != NONE && set == 1 << piece ? 0 : FAR;
            }
            cost[base + FRAME] = FAR;
        }

        private void merge(int set, int part) {
            int base = set * NODES;
            int one = part * NODES;
            int other = (set ^ part) * NODES;
            for (int node = 0; node < NODES; node++) {
                if (price[node] != NONE) {
                    int both = cost[one + node] + cost[other + node] - price[node];
                    cost[base + node] = Math.min(cost[base + node], both);
                }
            }
        }

        private void relax(int set) {
            int base = set * NODES;
            boolean more = true;
            for (int sweep = 0; sweep <= NODES && more; sweep++) {
                more = false;
                for (int square = 0; square < SQUARES; square++) {
                    if (price[square] != NONE && relaxSquare(base, square)) {
                        more = true;
                    }
                }
                for (int square = SQUARES - 1; square >= 0; square--) {
                    if (price[square] != NONE && relaxSquare(base, square)) {
                        more = true;
                    }
                }
            }
        }

        private boolean relaxSquare(int base, int square) {
            boolean onRim = isSet(rim, square);
            int near = onRim ? cost[base + FRAME] : FAR;
            for (int side = 0; side < SIDES; side++) {
                int to = beside(square, side);
                if (to != NONE && price[to] != NONE) {
                    near = Math.min(near, cost[base + to]);
                }
            }
            boolean better = near + price[square] < cost[base + square];
            if (better) {
                cost[base + square] = near + price[square];
            }
            if (onRim && cost[base + square] < cost[base + FRAME]) {
                cost[base + FRAME] = cost[base + square];
                better = true;
            }
            return better;
        }

        int cheapestJoin() {
            return joinedToFrame(all);
        }

        private int joinedToFrame(int set) {
            return set == 0 ? 0 : cost[set * NODES + FRAME];
        }

        /** Pieces that aren't joined are cut away whole. */
        int fewestChanges(Parts pieces) {
            int fewest = FAR;
            for (int set = 0; set <= all; set++) {
                int changes = joinedToFrame(set);
                for (int piece = 0; piece < pieces.number; piece++) {
                    changes += ((set >> piece) & 1) == 0 ? pieces.size[piece] : 0;
                }
                fewest = Math.min(fewest, changes);
            }
            return fewest;
        }
    }

    /** Judges all sets of bridges. */
    private static final class Choosing {
        static final int UNKNOWN = 0;
        static final int HANGS = 1;
        static final int FALLS = 2;

        /** The worth of squares that show only bridges of a set. */
        private final int[] within = new int[1 << BRIDGES];
        private final int[] state = new int[1 << BRIDGES];
        private int all = 0;

        int choose(Sheet s, Sheet next, Hanging hanging, boolean twice) {
            all = (1 << s.bridges.number) - 1;
            weigh(s, next);
            Arrays.fill(state, UNKNOWN);
            int best = NONE;
            for (int set = 0; set <= all; set++) {
                if ((best == NONE || isBetter(set, best)) && holds(set, s, hanging, twice)) {
                    best = set;
                }
            }
            return best;
        }

        /** Sets come from the least bits on, so that of equal ones the first stays. */
        private boolean isBetter(int set, int best) {
            int seen = seenBy(set);
            int least = seenBy(best);
            return seen < least || (seen == least && Integer.bitCount(set) < Integer.bitCount(best));
        }

        int seenBy(int set) {
            return within[all] - within[all & ~set];
        }

        private void weigh(Sheet s, Sheet next) {
            Arrays.fill(within, 0);
            for (int y = 0; y < s.high; y++) {
                for (int x = 0; x < s.wide; x++) {
                    within[s.showing(x, y, all, next)] += s.worth[y * EDGE + x];
                }
            }
            for (int bit = 1; bit <= all; bit *= 2) {
                for (int set = 0; set <= all; set++) {
                    if ((set & bit) != 0) {
                        within[set] += within[set ^ bit];
                    }
                }
            }
        }

        private boolean holds(int set, Sheet s, Hanging hanging, boolean twice) {
            if (!allHangs(set, s, hanging)) {
                return false;
            }
            for (int b = 0; twice && b < s.bridges.number; b++) {
                if (((set >> b) & 1) != 0 && !allHangs(set ^ (1 << b), s, hanging)) {
                    return false;
                }
            }
            return true;
        }

        private boolean allHangs(int set, Sheet s, Hanging hanging) {
            if (state[set] == UNKNOWN) {
                hanging.spread(s, set);
                state[set] = hanging.loose() == 0 ? HANGS : FALLS;
            }
            return state[set] == HANGS;
        }
    }

    /** Reads a sheet back into its shapes, from the last column to the first. */
    private static final class Reading {
        static final long MOST_WAYS = 1000000000000000000L;
        static final int DEEP = 8;

        private final int[] open = new int[DEEP];
        private final int[] cost = new int[EDGE + 1];
        private final int[] used = new int[EDGE + 1];
        private final long[] ways = new long[EDGE + 1];
        private final int[] shape = new int[EDGE];
        private final int[] column = new int[EDGE];
        private int number = 0;

        void cover(Sheet s, int y) {
            for (int k = 0; k < DEEP; k++) {
                open[k] = y + k < s.high ? s.openRow(y + k) : 0;
            }
            cost[s.wide] = 0;
            used[s.wide] = 0;
            ways[s.wide] = 1;
            for (int at = s.wide - 1; at >= 0; at--) {
                cost[at] = costLeftOut(at) + cost[at + 1];
                used[at] = used[at + 1];
                ways[at] = ways[at + 1];
                for (int k = 0; k < s.shapeNumber; k++) {
                    if (at + s.shapeWide[k] <= s.wide) {
                        weigh(at, costOf(s, k, at), at + s.shapeWide[k]);
                    }
                }
            }
            follow(s);
        }

        private void weigh(int at, int price, int next) {
            int sum = price + cost[next];
            if (sum < cost[at]) {
                cost[at] = sum;
                used[at] = used[next] + 1;
                ways[at] = ways[next];
            } else if (sum == cost[at]) {
                used[at] = Math.min(used[at], used[next] + 1);
                ways[at] = Math.min(MOST_WAYS, ways[at] + ways[next]);
            }
        }

        private int costLeftOut(int at) {
            int price = 0;
            for (int k = 0; k < DEEP; k++) {
                price += (open[k] >> at) & 1;
            }
            return price;
        }

        private int costOf(Sheet s, int k, int at) {
            int price = 0;
            int mask = (1 << s.shapeWide[k]) - 1;
            for (int y = 0; y < s.shapeHigh[k]; y++) {
                price += Integer.bitCount(((open[y] >> at) & mask) ^ s.shapeRows[k * SHAPE_EDGE + y]);
            }
            return price;
        }

        private void follow(Sheet s) {
            number = 0;
            int next = 0;
            for (int at = 0; at < s.wide; at++) {
                int k = at == next ? shapeAt(s, at) : NONE;
                if (k != NONE) {
                    shape[number] = k;
                    column[number] = at;
                    number++;
                    next = at + s.shapeWide[k];
                } else if (at == next) {
                    next = at + 1;
                }
            }
        }

        /** The first shape that goes on to the best reading; NONE: the column is left out. */
        private int shapeAt(Sheet s, int at) {
            for (int k = 0; k < s.shapeNumber; k++) {
                int next = at + s.shapeWide[k];
                if (next <= s.wide && used[next] + 1 == used[at]
                        && costOf(s, k, at) + cost[next] == cost[at]) {
                    return k;
                }
            }
            return NONE;
        }

        long told(int what) {
            if (what == 0) {
                return cost[0];
            }
            if (what == 1) {
                return number;
            }
            if (what == 2) {
                return ways[0];
            }
            if (what >= 10 && what < 10 + number) {
                return shape[what - 10];
            }
            return what >= 40 && what < 40 + number ? column[what - 40] : NONE;
        }
    }

    /** Plans the cutting of holes, judging every set of them that may be cut. */
    private static final class Cutting {
        /** Above what any LOOSE can be. */
        static final int FAR = 2 * SQUARES;

        final int[] places = new int[MOST_HOLES];
        private final int[] holes = new int[MOST_HOLES * EDGE];
        private final int[] loose = new int[1 << MOST_HOLES];
        /** The least that the greatest LOOSE can be behind a set of cuts. */
        private final int[] ahead = new int[1 << MOST_HOLES];
        private final int[] tin = new int[EDGE];
        private final int[] anchors = new int[EDGE];

        void plan(Sheet s, Parts parts, Hanging hanging) {
            int number = Math.min(parts.number, MOST_HOLES);
            prepare(s, parts, number);
            int all = (1 << number) - 1;
            ahead[all] = 0;
            loose[all] = looseBehind(s, all, number, hanging);
            for (int set = all - 1; set >= 0; set--) {
                loose[set] = looseBehind(s, set, number, hanging);
                ahead[set] = FAR;
                for (int k = 0; k < number; k++) {
                    if (((set >> k) & 1) == 0) {
                        ahead[set] = Math.min(ahead[set], worstFrom(set | (1 << k)));
                    }
                }
            }
            follow(number);
        }

        int greatest() {
            return ahead[0];
        }

        private int worstFrom(int set) {
            return Math.max(loose[set], ahead[set]);
        }

        private void prepare(Sheet s, Parts parts, int number) {
            for (int y = 0; y < EDGE; y++) {
                anchors[y] = s.rimRow(y);
                for (int k = 0; k < number; k++) {
                    holes[k * EDGE + y] = parts.rowOf(k, y);
                }
            }
        }

        private int looseBehind(Sheet s, int set, int number, Hanging hanging) {
            int squares = 0;
            for (int y = 0; y < EDGE; y++) {
                tin[y] = s.fullRow(y);
                for (int k = 0; k < number; k++) {
                    tin[y] &= ((set >> k) & 1) != 0 ? ~holes[k * EDGE + y] : -1;
                }
                squares += Integer.bitCount(tin[y]);
            }
            hanging.walk(tin, anchors);
            return squares - hanging.reached + hanging.greatestTongue(NONE);
        }

        /** Any hole goes ahead with which the greatest need not be passed: the first such one. */
        private void follow(int number) {
            int set = 0;
            for (int place = 0; place < number; place++) {
                int chosen = NONE;
                for (int k = 0; k < number && chosen == NONE; k++) {
                    if (((set >> k) & 1) == 0 && worstFrom(set | (1 << k)) <= ahead[0]) {
                        chosen = k;
                    }
                }
                if (chosen == NONE) {
                    return;
                }
                places[place] = chosen;
                set |= 1 << chosen;
            }
        }
    }
}
