import java.util.ArrayList;
import java.util.List;
import java.util.Random;

/** Promises 3 and 4: texts with tokens left out, put in, doubled and changed, against the plain reading of the grammar. */
public final class BrokenTextTest {
    private static final Due DUE = new Due();
    private static final String[] TOKENS = {"plate", "row", "shape", "put", "turned", "hold", "worth", "to", "brush", "wear", "bridge",
        "straight", "broad", "corner", "told", "hidden", "north", "east", "south", "west", "s", "t", "st", "tt", "stststst",
        "ststststs", "aba", "abb", "abat", "zz", "abcdefgh", "abcdefghi", ";", ",", "#", "A", "-", "\t", "\u00e9", "\u0000", "0", "1", "2", "3",
        "4", "5", "7", "8", "9", "19", "20", "21", "99", "100", "400", "401", "999", "1000", "0001", "00001", "9999", "10000"};
    private static final String[] BOUNDS = {"0", "1", "2", "3", "4", "5", "19", "20", "21", "99", "100", "400", "401", "999", "1000", "0000", "00000"};
    private static TinStencils x = new TinStencils();
    private static int calls = 0;
    private static int whole = 0;
    private static int broken = 0;

    public static void main(String[] args) {
        for (int seed = 0; seed < 1500 && DUE.allRight(); seed++) {
            Random random = new Random(seed * 31L + 7);
            Maker maker = new Maker(seed + 5000);
            maker.make(1 + random.nextInt(20), random.nextInt(14), 12);
            List<String> tokens = seed % 3 == 0 ? nearLimits(random) : maker.tokens;
            for (int k = 0; k < 30; k++) {
                List<String> changed = new ArrayList<>(tokens);
                for (int n = random.nextInt(3); n > 0; n--) {
                    change(changed, random);
                }
                String text = joined(changed, random);
                check(random.nextInt(8) == 0 ? text.substring(0, random.nextInt(text.length() + 1)) : text);
            }
        }
        DUE.is("enough of both: " + whole + " whole, " + broken + " broken", whole > 3000 && broken > 3000, true);
        DUE.end();
    }

    /** One limit is all but met, met or passed by one: of statements, shapes, words, bridges, squares. */
    private static List<String> nearLimits(Random random) {
        int which = random.nextInt(5);
        int over = random.nextInt(3) - 1;
        int shapes = which == 0 ? 8 + over : 1 + random.nextInt(2);
        int words = which == 1 ? 8 + over : 1 + random.nextInt(2);
        int bridges = which == 2 ? 12 + over : 1 + random.nextInt(2);
        int squares = which == 3 ? 8 + over : 1 + random.nextInt(2);
        int rest = which == 4 ? 60 + over - shapes - bridges - 1 : random.nextInt(3);
        StringBuilder text = new StringBuilder("plate 5 5 ; ");
        for (int k = 0; k < shapes; k++) {
            text.append("shape " + (char) ('a' + k) + " st".repeat(words) + " ; ");
        }
        for (int k = 0; k < bridges; k++) {
            text.append("bridge told 0 0" + " , 1 2".repeat(squares - 1) + " ; ");
        }
        text.append("put a 4 4 turned 3 ; ").append("wear 1 ; ".repeat(rest));
        return new ArrayList<>(List.of(text.toString().trim().split(" ")));
    }

    private static void change(List<String> tokens, Random random) {
        int k = random.nextInt(tokens.size());
        switch (random.nextInt(8)) {
            case 0: tokens.set(k, TOKENS[random.nextInt(TOKENS.length)]); break;
            case 1: tokens.add(k, TOKENS[random.nextInt(TOKENS.length)]); break;
            case 2: tokens.add(k, tokens.get(k)); break;
            case 3: tokens.set(k, tokens.get(random.nextInt(tokens.size()))); break;
            case 4: doubleStatement(tokens, k); break;
            case 5: case 6: changeNumber(tokens, k, random); break;
            default:
                if (tokens.size() > 1) {
                    tokens.remove(k);
                }
        }
    }

    /** The next number becomes one of those at which the document has a bound. */
    private static void changeNumber(List<String> tokens, int k, Random random) {
        for (int at = k; at < tokens.size(); at++) {
            if (tokens.get(at).matches("[0-9]+")) {
                tokens.set(at, BOUNDS[random.nextInt(BOUNDS.length)]);
                return;
            }
        }
    }

    /** What stands between two semicolons comes once more. */
    private static void doubleStatement(List<String> tokens, int k) {
        int from = k;
        while (from > 0 && !tokens.get(from - 1).equals(";")) {
            from--;
        }
        int end = k;
        while (end < tokens.size() - 1 && !tokens.get(end).equals(";")) {
            end++;
        }
        tokens.addAll(from, new ArrayList<>(tokens.subList(from, end + 1)));
    }

    /** Blanks between some tokens alone: words that are not kept apart run together, and so do numbers. */
    private static String joined(List<String> tokens, Random random) {
        StringBuilder text = new StringBuilder();
        for (String token : tokens) {
            text.append(token);
            boolean sign = token.equals(";") || token.equals(",");
            if (sign ? random.nextInt(9) == 0 : random.nextInt(60) != 0) {
                text.append(random.nextInt(9) == 0 ? '\n' : ' ');
            }
        }
        return text.toString();
    }

    private static void check(String text) {
        if (text.length() > 1200) {
            return;
        }
        PlainText plain = new PlainText(text);
        calls += (text.length() + 19) / 20 + 2;
        if (calls > 512) {
            x = new TinStencils();
            calls = (text.length() + 19) / 20 + 2;
        }
        DUE.is("<" + text + ">", Due.tell(x, 0, text), plain.fault < 0 ? plain.statements : -1);
        DUE.is("fault of <" + text + ">", x.fault(), plain.fault);
        whole += plain.fault < 0 ? 1 : 0;
        broken += plain.fault < 0 ? 0 : 1;
    }
}
