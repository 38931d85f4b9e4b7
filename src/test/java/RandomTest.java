import java.util.List;
import java.util.Random;
import java.util.TreeSet;

/** Random sheets, changed and bridged at random, held against the plain reading of the document (Slow). */
public final class RandomTest {
    private static final Due DUE = new Due();
    private static String about = "";
    private static int falling = 0;
    private static int joined = 0;
    private static int chosen = 0;
    private static int planned = 0;

    public static void main(String[] args) {
        for (int seed = 0; seed < 260 && DUE.allRight(); seed++) {
            run(seed);
        }
        for (int seed = 0; seed < 400 && DUE.allRight(); seed++) {
            runDense(seed);
        }
        System.out.println("falling: " + falling + ", joined: " + joined + ", chosen: " + chosen + ", planned: " + planned);
        DUE.is("enough of what falls, is joined, chosen, planned",
            falling > 100 && joined > 100 && chosen > 50 && planned > 50, true);
        DUE.end();
    }

    /** Small sheets of which much falls, each alone and with a next one. */
    private static void runDense(int seed) {
        Random random = new Random(seed * 104729L);
        Maker maker = new Maker(seed + 1000000);
        TinStencils x = new TinStencils();
        Slow[] sheets = new Slow[6];
        StringBuilder log = new StringBuilder("dense " + seed + ": ");
        for (int k = 0; k < 3; k++) {
            maker.makeDense(2 + random.nextInt(4), 2 + random.nextInt(4), random.nextInt(6));
            String text = maker.text();
            log.append(k + " <" + text + "> ");
            DUE.is(log + "plate", Due.tell(x, k, text), maker.sheet.statements);
            sheets[k] = maker.sheet;
        }
        for (int round = 0; round < 2; round++) {
            about = log + " round " + round + ": ";
            for (int s = 0; s < 3; s++) {
                checkSheet(x, sheets, s, random, true);
            }
            checkPile(x, sheets, random);
            disturb(x, sheets, random);
        }
    }

    private static void run(int seed) {
        Random random = new Random(seed * 7919L);
        Maker maker = new Maker(seed);
        TinStencils x = new TinStencils();
        Slow[] sheets = new Slow[6];
        boolean small = seed % 4 != 3;
        StringBuilder log = new StringBuilder("seed " + seed + ": ");
        for (int k = 0; k < 1 + random.nextInt(4); k++) {
            int number = random.nextInt(6);
            String text = "";
            for (int tries = 0; tries < 20; tries++) {
                maker.make(small ? 2 + random.nextInt(5) : 20, random.nextInt(small ? 14 : 40), small ? 5 : 7);
                text = maker.text();
                if (text.length() <= 1200) {
                    break;
                }
            }
            log.append(number + " <" + text + "> ");
            DUE.is(log + "plate", Due.tell(x, number, text), maker.sheet.statements);
            DUE.is(log + "fault", x.fault(), -1);
            sheets[number] = maker.sheet;
        }
        for (int k = 0; k < 3; k++) {
            about = log + " round " + k + ": ";
            for (int s = 0; s < 6; s++) {
                if (sheets[s] != null) {
                    checkSheet(x, sheets, s, random, small);
                }
            }
            checkPile(x, sheets, random);
            disturb(x, sheets, random);
        }
    }

    private static void is(String call, long got, long want) {
        DUE.is(about + call, got, want);
    }

    private static void disturb(TinStencils x, Slow[] sheets, Random random) {
        for (int s = 0; s < 6; s++) {
            Slow sheet = sheets[s];
            if (sheet == null) {
                continue;
            }
            int cx = random.nextInt(sheet.wide);
            int cy = random.nextInt(sheet.high);
            boolean through = random.nextBoolean();
            DUE.is(about + "change", x.change(s, cx, cy, through), true);
            sheet.through[cy][cx] = through;
            for (int b = 0; b < sheet.spans.size(); b++) {
                boolean in = random.nextBoolean();
                DUE.is(about + "put", x.put(s, b, in), true);
                sheet.in = in ? sheet.in | 1 << b : sheet.in & ~(1 << b);
            }
        }
    }

    private static void checkSheet(TinStencils x, Slow[] sheets, int s, Random random, boolean small) {
        Slow sheet = sheets[s];
        Slow next = s < 5 ? sheets[s + 1] : null;
        boolean[][] tin = sheet.tin(sheet.in);
        checkTold(x, sheet, s, tin);
        checkHanging(x, sheet, s, tin);
        checkBridges(x, sheet, s, next);
        if (small || random.nextInt(3) == 0) {
            checkChoice(x, sheet, s, next);
        }
        checkJoining(x, sheet, s);
        checkSag(x, sheet, s, tin, random);
        if (small || sheet.shapes.size() < 2) {
            checkRead(x, sheet, s, random.nextInt(sheet.high));
        }
        checkCut(x, sheet, s);
    }

    private static void checkTold(TinStencils x, Slow sheet, int s, boolean[][] tin) {
        int held = 0;
        for (int k = 0; k < 4; k++) {
            held |= sheet.held[k] ? 1 << k : 0;
        }
        int[] want = {sheet.wide, sheet.high, sheet.statements, sheet.shapes.size(), sheet.spans.size(), sheet.in, held,
            sheet.brush, sheet.wear, Slow.number(tin), -1};
        for (int k = 0; k < want.length; k++) {
            is("sheet " + s + " " + k, x.sheet(s, k), want[k]);
        }
    }

    private static void checkHanging(TinStencils x, Slow sheet, int s, boolean[][] tin) {
        boolean[][] hangs = sheet.hangs(tin);
        int[][] tongues = sheet.tongues(tin, sheet.rims());
        List<TreeSet<Integer>> pieces = sheet.pieces(sheet.in);
        for (int b = 0; b < sheet.high; b++) {
            for (int a = 0; a < sheet.wide; a++) {
                int piece = -1;
                for (int k = 0; k < pieces.size(); k++) {
                    piece = pieces.get(k).contains(b * 100 + a) ? k : piece;
                }
                int[] want = {sheet.through[b][a] ? 1 : 0, tin[b][a] ? 1 : 0, sheet.worth[b][a], hangs[b][a] ? 1 : 0, piece,
                    tongues[b][a], -1};
                for (int k = 0; k < want.length; k++) {
                    is("square " + s + " " + a + " " + b + " " + k, x.square(s, a, b, k), want[k]);
                }
            }
        }
        is("falls", x.falls(s, -1, 0), pieces.size());
        falling += pieces.size() > 1 ? 1 : 0;
        for (int k = 0; k < pieces.size(); k++) {
            int start = pieces.get(k).first();
            int[] want = {pieces.get(k).size(), start % 100, start / 100, sheet.gap(pieces.get(k)), -1};
            for (int w = 0; w < want.length; w++) {
                is("falls " + s + " " + k + " " + w, x.falls(s, k, w), want[w]);
            }
        }
        is("tongues 0", x.tongues(s, 0), Slow.above(tongues, 0));
        is("tongues 1", x.tongues(s, 1), Slow.greatest(tongues));
        is("tongues 2", x.tongues(s, 2), Slow.above(tongues, sheet.brush));
    }

    private static void checkBridges(TinStencils x, Slow sheet, int s, Slow next) {
        int weak = -1;
        int least = -1;
        for (int b = 0; b < sheet.spans.size(); b++) {
            Slow.Span span = sheet.spans.get(b);
            int cut = 0;
            for (int q : span.squares) {
                cut += sheet.through[q / 100][q % 100] ? 1 : 0;
            }
            boolean in = (sheet.in >> b & 1) == 1;
            int[] want = {span.kind, span.squares.size(), cut, span.hidden ? 1 : 0, in ? 1 : 0, span.lasts, -1};
            for (int k = 0; k < want.length; k++) {
                is("bridge " + s + " " + b + " " + k, x.bridge(s, b, k), want[k]);
            }
            if (in && weak < 0 && span.lasts < sheet.wear) {
                weak = b;
            }
            if (in && (least < 0 || span.lasts < sheet.spans.get(least).lasts)) {
                least = b;
            }
            int more = sheet.loose(sheet.tin(sheet.in & ~(1 << b))) - sheet.loose(sheet.tin(sheet.in));
            is("spoilt " + s + " " + b, x.spoilt(s, b), in ? more : -1);
        }
        is("judge 0", x.judge(s, 0), sheet.loose(sheet.tin(sheet.in)) == 0 ? 1 : 0);
        is("judge 1", x.judge(s, 1), weak);
        is("judge 2", x.judge(s, 2), sheet.seen(sheet.in, next));
        is("first", x.first(s), least);
    }

    private static void checkChoice(TinStencils x, Slow sheet, int s, Slow next) {
        for (int k = 0; k < 2; k++) {
            int set = sheet.choice(k == 1, next);
            chosen += set > 0 ? 1 : 0;
            is("choice " + s + " 0", x.choice(s, k == 1, 0), set);
            is("choice " + s + " 1", x.choice(s, k == 1, 1), set < 0 ? -1 : sheet.seen(set, next));
            is("choice " + s + " 2", x.choice(s, k == 1, 2), set < 0 ? -1 : Integer.bitCount(set));
        }
    }

    private static void checkJoining(TinStencils x, Slow sheet, int s) {
        int pieces = sheet.pieces(0).size();
        if (pieces > 7) {
            is("cheapest " + s, x.cheapest(s), -1);
            is("made " + s, x.made(s), -1);
        } else if (sheet.cutSquares().size() + pieces <= 13) {
            joined += pieces > 1 ? 1 : 0;
            is("cheapest " + s, x.cheapest(s), sheet.cheapest());
            is("made " + s, x.made(s), sheet.made());
        }
    }

    private static void checkSag(TinStencils x, Slow sheet, int s, boolean[][] tin, Random random) {
        int best = -1;
        int least = 0;
        for (int k = 0; k < 4; k++) {
            int a = k == 1 || k == 2 ? sheet.wide - 1 : 0;
            int b = k > 1 ? sheet.high - 1 : 0;
            if (tin[b][a]) {
                int sag = Slow.greatest(sheet.tonguesFrom(a, b));
                if (best < 0 || sag < least) {
                    best = k;
                    least = sag;
                }
            }
        }
        is("corner " + s, x.corner(s), best);
        for (int k = 0; k < 3; k++) {
            int a = random.nextInt(sheet.wide);
            int b = random.nextInt(sheet.high);
            int n = random.nextInt(6) - 1;
            int[][] tongues = sheet.tonguesFrom(a, b);
            is("sag " + a + " " + b, x.sag(s, a, b, n, 0), tin[b][a] ? Slow.greatest(tongues) : -1);
            is("sag " + a + " " + b + " " + n, x.sag(s, a, b, n, 1), tin[b][a] ? Slow.above(tongues, n) : -1);
        }
    }

    private static void checkRead(TinStencils x, Slow sheet, int s, int y) {
        Slow.Cover cover = sheet.new Cover(y);
        is("read " + s + " " + y + " 0", x.read(s, y, 0), cover.cost);
        is("read " + s + " " + y + " 1", x.read(s, y, 1), cover.best.size());
        is("read " + s + " " + y + " 2", x.read(s, y, 2), cover.ways);
        for (int k = 0; k <= cover.best.size(); k++) {
            boolean there = k < cover.best.size();
            is("read " + s + " " + y + " " + (10 + k), x.read(s, y, 10 + k), there ? cover.best.get(k)[0] : -1);
            is("read " + s + " " + y + " " + (40 + k), x.read(s, y, 40 + k), there ? cover.best.get(k)[1] : -1);
        }
    }

    private static void checkCut(TinStencils x, Slow sheet, int s) {
        List<TreeSet<Integer>> holes = sheet.holes();
        is("holes", x.hole(s, -1, 0), holes.size());
        for (int k = 0; k < holes.size(); k++) {
            is("hole 0", x.hole(s, k, 0), holes.get(k).size());
            is("hole 1", x.hole(s, k, 1), holes.get(k).first() % 100);
            is("hole 2", x.hole(s, k, 2), holes.get(k).first() / 100);
        }
        if (holes.size() > 8) {
            is("cut " + s, x.cut(s, 0), -1);
            is("cut " + s, x.cut(s, 10), -1);
        } else if (holes.size() * sheet.wide * sheet.high < 400) {
            int[] plan = sheet.plan();
            planned += holes.size() > 2 && plan[0] > 0 ? 1 : 0;
            is("cut " + s, x.cut(s, 0), plan[0]);
            for (int k = 0; k <= holes.size(); k++) {
                is("cut " + s + " " + (10 + k), x.cut(s, 10 + k), k < holes.size() ? plan[k + 1] : -1);
            }
        }
    }

    private static void checkPile(TinStencils x, Slow[] sheets, Random random) {
        int[] order = {0, 1, 2, 3, 4, 5};
        for (int k = 5; k > 0; k--) {
            int l = random.nextInt(k + 1);
            int o = order[k];
            order[k] = order[l];
            order[l] = o;
        }
        int digits = 0;
        for (int o : order) {
            digits = digits * 10 + o;
        }
        DUE.is(about + "order", x.order(digits), true);
        is("count 3", x.count(3), digits);
        is("left 0", x.left(0), Slow.left(sheets, order));
        int[] least = Slow.least(sheets);
        is("left 1", x.left(1), least[0]);
        for (int k = 0; k < 6; k++) {
            is("left " + (10 + k), x.left(10 + k), k + 1 < least.length ? least[k + 1] : -1);
        }
        for (int n = 0; n < 20; n++) {
            int a = random.nextInt(n < 15 ? 6 : 20);
            int b = random.nextInt(n < 15 ? 6 : 20);
            int painter = -1;
            for (int o : order) {
                Slow s = sheets[o];
                painter = s != null && s.has(a, b) && !s.tin(s.in)[b][a] ? o : painter;
            }
            is("paint " + a + " " + b, x.paint(a, b), painter);
        }
        checkAlike(x, sheets, random);
    }

    private static void checkAlike(TinStencils x, Slow[] sheets, Random random) {
        for (int a = 0; a < 6; a++) {
            for (int b = 0; b < 6; b++) {
                if (sheets[a] == null || sheets[b] == null) {
                    is("alike", x.alike(a, b, 0, 0, 0), -1);
                    is("turn", x.turn(a, b), -1);
                    continue;
                }
                int best = 0;
                for (int t = 0; t < 4; t++) {
                    int dx = random.nextInt(19) - 9;
                    int dy = random.nextInt(5) - 2;
                    is("alike " + t, x.alike(a, b, t, dx, dy), sheets[a].alike(sheets[b], t, dx, dy));
                    if (sheets[a].alike(sheets[b], t, 0, 0) > sheets[a].alike(sheets[b], best, 0, 0)) {
                        best = t;
                    }
                }
                is("turn", x.turn(a, b), best);
            }
        }
    }
}
