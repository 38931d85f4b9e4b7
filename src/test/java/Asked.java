import java.util.ArrayList;
import java.util.List;

/**
 * What can be asked of an object, all in one list: two lists are alike if nothing was done between them. Only for small
 * sheets, so that an object isn't asked too often.
 */
final class Asked {
    private Asked() {
    }

    /** All but what was refused. */
    static List<Long> of(TinStencils x) {
        List<Long> all = new ArrayList<>();
        for (int what = 0; what <= 3; what++) {
            all.add((long) x.count(what));
        }
        all.add((long) x.fault());
        for (int s = 0; s < 6; s++) {
            all.add((long) x.sheet(s, 0));
            if (x.sheet(s, 0) >= 0) {
                sheet(x, s, all);
            }
        }
        return all;
    }

    private static void sheet(TinStencils x, int s, List<Long> all) {
        for (int what = 1; what <= 9; what++) {
            all.add((long) x.sheet(s, what));
        }
        for (int b = 0; b < x.sheet(s, 1); b++) {
            for (int a = 0; a < x.sheet(s, 0); a++) {
                all.add((long) x.square(s, a, b, 0));
                all.add((long) x.square(s, a, b, 2));
            }
            all.add(x.read(s, b, 0));
            all.add(x.read(s, b, 2));
        }
        for (int b = 0; b < x.sheet(s, 4); b++) {
            all.add((long) x.bridge(s, b, 1));
            all.add((long) x.bridge(s, b, 5));
        }
    }

    /** What was refused, by reason. */
    static List<Integer> refused(TinStencils x) {
        return List.of(x.count(10), x.count(11), x.count(12));
    }
}
