import java.util.ArrayList;
import java.util.List;

/**
 * What was asked or told ahead leaves nothing behind: each answer is the one that a new object with that sheet alone
 * gives. (What is asked of each object stays below its 512 calls.)
 */
public final class AgainEdgesTest {
    private static final Due DUE = new Due();
    private static final String[] TEXTS = {
        "plate 1 1;",
        "plate 1 1;row 0 t;shape a t;bridge told 0 0 hidden;",
        Due.drawn("...", ".#.", "...") + "bridge straight 1 0 north 1;brush 1;wear 101;",
        Due.drawn("#....", "#.##.", "#....", "#.#.#", "#....") + "hold west;worth 1 1 to 1 1 7;shape b ts tt;bridge told 1 1;bridge told 1 3,3 3;",
        Due.drawn("#.#.#", "....."  , "#.#.#") + "hold north;shape c t;shape d s;shape e tst;worth 0 1 to 4 1 9;",
        Due.drawn(".....", ".####", ".####", ".####", ".....") + "hold west;shape f tttt tttt;brush 3;",
        Due.drawn("##.##") + "hold east;bridge straight 2 0 east 1;bridge told 2 0;shape g sst;",
        Due.drawn("#", "#", ".", "#", ".") + "hold north;bridge told 0 2;wear 60;shape h t t;"};

    public static void main(String[] args) {
        sameOnceAsOften();
        behindAnother();
        behindItsOwnText();
        behindAFault();
        behindAnImage();
        DUE.end();
    }

    private static long ask(TinStencils x, int s, int question) {
        int what = question / 24;
        switch (question % 24) {
            case 0: return x.sheet(s, what);
            case 1: return x.falls(s, -1, 0);
            case 2: return x.falls(s, what % 2, what % 4);
            case 3: return x.tongues(s, what % 3);
            case 4: return x.judge(s, what % 3);
            case 5: return x.cheapest(s);
            case 6: return x.made(s);
            case 7: return x.choice(s, false, what % 3);
            case 8: return x.choice(s, true, what % 3);
            case 9: return x.sag(s, what % 5, what % 3, 1, what % 2);
            case 10: return x.corner(s);
            case 11: return x.first(s);
            case 12: return x.read(s, 0, what % 3);
            case 13: return x.read(s, what % 5, 0);
            case 14: return x.read(s, what % 3, 10);
            case 15: return x.read(s, what % 3, 40 + what % 2);
            case 16: return x.hole(s, -1, 0);
            case 17: return x.hole(s, what % 3, what % 3);
            case 18: return x.cut(s, 0);
            case 19: return x.cut(s, 10 + what % 4);
            case 20: return x.square(s, what % 5, what % 3, 3 + what % 3);
            case 21: return x.alike(s, s, what % 4, what % 3, 0);
            case 22: return x.turn(s, s);
            default: return x.bridge(s, what / 6, what % 6);
        }
    }

    private static final int QUESTIONS = 10 * 24;

    /** Each question is asked of an object of its own. */
    private static List<Long> fresh(String text) {
        List<Long> all = new ArrayList<>();
        for (int q = 0; q < QUESTIONS; q++) {
            all.add(ask(Due.with(text), 0, q));
        }
        return all;
    }

    private static void alike(String about, TinStencils x, int sheet, List<Long> want) {
        for (int q = 0; q < QUESTIONS; q++) {
            DUE.is(about + ": question " + q, ask(x, sheet, q), want.get(q));
        }
    }

    private static void sameOnceAsOften() {
        DUE.says("the same calls always give the same answers");
        for (String text : TEXTS) {
            List<Long> want = fresh(text);
            TinStencils x = Due.with(text);
            alike("once of <" + text + ">", x, 0, want);
            alike("twice of <" + text + ">", x, 0, want);
        }
    }

    /** Sheets 0 and 3: neither is next to the other. */
    private static void behindAnother() {
        DUE.says("what was asked of another SHEET leaves nothing behind");
        for (String text : TEXTS) {
            List<Long> want = fresh(text);
            for (String other : TEXTS) {
                TinStencils x = Due.with(other);
                Due.tell(x, 3, text);
                for (int q = 0; q < QUESTIONS; q++) {
                    ask(x, 0, q);
                    DUE.is("<" + text + "> behind <" + other + ">: question " + q, ask(x, 3, q), want.get(q));
                }
            }
        }
    }

    private static void behindItsOwnText() {
        DUE.says("At first (a text told over others, in each of the places where they were)");
        for (String text : TEXTS) {
            List<Long> want = fresh(text);
            for (String other : TEXTS) {
                for (int often = 1; often <= 3; often++) {
                    TinStencils x = Due.with(other);
                    for (int k = 1; k < often; k++) {
                        Due.tell(x, 0, other);
                    }
                    Due.tell(x, 0, text);
                    alike("<" + text + "> over " + often + " of <" + other + ">", x, 0, want);
                }
            }
        }
    }

    private static void behindAFault() {
        DUE.says("a FAULT (what was stays), and nothing of the faulty text comes later");
        for (String text : TEXTS) {
            List<Long> want = fresh(text);
            for (String other : TEXTS) {
                TinStencils x = Due.with(text);
                DUE.is("a fault", Due.tell(x, 0, other + "hold"), -1);
                alike("<" + text + "> behind the fault of <" + other + ">", x, 0, want);
                Due.tell(x, 0, text);
                DUE.is("told again", x.sheet(0, 9), want.get(9 * 24));
                TinStencils y = new TinStencils();
                DUE.is("a fault", Due.tell(y, 0, other + "hold"), -1);
                DUE.is("none told", y.count(0), 0);
                Due.tell(y, 0, text);
                alike("<" + text + "> told behind the fault of <" + other + ">", y, 0, want);
            }
        }
    }

    private static void behindAnImage() {
        DUE.says("All is as in an IMAGE");
        for (String text : TEXTS) {
            List<Long> want = fresh(text);
            for (String other : TEXTS) {
                TinStencils x = Due.with(text);
                x.image();
                Due.tell(x, 0, other);
                x.image();
                for (int q = 0; q < 24; q++) {
                    ask(x, 0, q);
                }
                DUE.is("back", x.back(0), true);
                alike("<" + text + "> back from <" + other + ">", x, 0, want);
            }
        }
    }
}
