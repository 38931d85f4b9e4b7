import java.util.Random;

/** Any calls with any arguments in any state: none throws, and the same calls give the same answers. */
public final class WildTest {
    private static final Due DUE = new Due();
    private static final int[] ODD = {Integer.MIN_VALUE, Integer.MIN_VALUE + 1, -1000, -32, -10, -9, -2, -1, 0, 1, 2, 3, 4, 5, 6, 7, 9, 10,
        11, 12, 13, 16, 19, 20, 31, 32, 40, 41, 60, 399, 400, 401, 999, 1200, 1201, 12345, 543210, 2147483637, Integer.MAX_VALUE - 9,
        Integer.MAX_VALUE};

    public static void main(String[] args) {
        for (int seed = 0; seed < 400; seed++) {
            long once = run(seed);
            DUE.is("seed " + seed + " again", run(seed), once);
        }
        DUE.end();
    }

    private static long run(int seed) {
        Random random = new Random(seed);
        Maker maker = new Maker(seed);
        TinStencils x = new TinStencils();
        long sum = 0;
        for (int k = 0; k < 300; k++) {
            if (k % 60 == 0) {
                sum = sum * 31 + tellAny(x, maker, random);
            }
            long answer = call(x, random.nextInt(29), random);
            sum = sum * 31 + answer;
        }
        return sum;
    }

    private static long tellAny(TinStencils x, Maker maker, Random random) {
        if (random.nextBoolean()) {
            maker.makeDense(1 + random.nextInt(20), 1 + random.nextInt(20), random.nextInt(6));
        } else {
            maker.make(20, random.nextInt(61), 12);
        }
        String text = maker.text();
        if (random.nextInt(3) == 0) {
            int at = random.nextInt(text.length());
            text = text.substring(0, at) + (char) random.nextInt(256) + text.substring(at + 1);
        }
        if (text.length() > 1200) {
            text = text.substring(0, 1200);
            text = text.substring(0, text.lastIndexOf(';') + 1);
        }
        return Due.tell(x, random.nextInt(6), text);
    }

    private static int any(Random random) {
        return random.nextBoolean() ? random.nextInt(6) : random.nextInt(8) == 0 ? random.nextInt() : ODD[random.nextInt(ODD.length)];
    }

    private static long call(TinStencils x, int which, Random r) {
        switch (which) {
            case 0: return x.feed(any(r), any(r), any(r), any(r), any(r));
            case 1: return x.plate(any(r), any(r));
            case 2: return x.fault();
            case 3: return x.sheet(any(r), any(r));
            case 4: return x.square(any(r), any(r), any(r), any(r));
            case 5: return x.falls(any(r), any(r), any(r));
            case 6: return x.tongues(any(r), any(r));
            case 7: return x.change(any(r), any(r), any(r), r.nextBoolean()) ? 1 : 0;
            case 8: return x.bridge(any(r), any(r), any(r));
            case 9: return x.put(any(r), any(r), r.nextBoolean()) ? 1 : 0;
            case 10: return x.judge(any(r), any(r));
            case 11: return x.cheapest(any(r));
            case 12: return x.made(any(r));
            case 13: return x.choice(any(r), r.nextBoolean(), any(r));
            case 14: return x.sag(any(r), any(r), any(r), any(r), any(r));
            case 15: return x.corner(any(r));
            case 16: return x.first(any(r));
            case 17: return x.spoilt(any(r), any(r));
            case 18: return x.order(r.nextBoolean() ? any(r) : 543210) ? 1 : 0;
            case 19: return x.paint(any(r), any(r));
            case 20: return x.left(any(r));
            case 21: return x.alike(any(r), any(r), any(r), any(r), any(r));
            case 22: return x.turn(any(r), any(r));
            case 23: return x.read(any(r), any(r), any(r));
            case 24: return x.hole(any(r), any(r), any(r));
            case 25: return x.cut(any(r), any(r));
            case 26: return x.image();
            case 27: return x.back(any(r)) ? 1 : 0;
            default: return x.count(any(r));
        }
    }
}
