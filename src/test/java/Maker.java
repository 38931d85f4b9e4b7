import java.util.ArrayList;
import java.util.List;
import java.util.Random;

/** Makes random texts token by token, and the plain sheet that such a text tells. */
final class Maker {
    private static final String[] SIDES = {"north", "east", "south", "west"};
    private final Random random;
    final List<String> tokens = new ArrayList<>();
    final List<String> names = new ArrayList<>();
    Slow sheet;

    Maker(long seed) {
        random = new Random(seed);
    }

    int upTo(int most) {
        return random.nextInt(most + 1);
    }

    private void word(String w) {
        tokens.add(w);
    }

    private int number(int least, int most) {
        int n = least + random.nextInt(most - least + 1);
        tokens.add(n < 100 && random.nextInt(9) == 0 ? "00" + n : "" + n);
        return n;
    }

    private int side() {
        int k = random.nextInt(4);
        tokens.add(SIDES[k]);
        return k;
    }

    private boolean[] squares(int length, int cutOutOf) {
        StringBuilder text = new StringBuilder();
        boolean[] row = new boolean[length];
        for (int k = 0; k < length; k++) {
            row[k] = random.nextInt(cutOutOf) == 0;
            text.append(row[k] ? 't' : 's');
        }
        tokens.add(text.toString());
        return row;
    }

    /** A sheet of at most this size, with so many statements. */
    void make(int most, int statements, int bridges) {
        tokens.clear();
        names.clear();
        word("plate");
        int w = number(1, most);
        int h = number(1, most);
        word(";");
        sheet = new Slow(w, h);
        for (int k = 0; k < statements; k++) {
            statement(bridges);
            word(";");
            sheet.statements++;
        }
    }

    /** A sheet whose rows are all drawn, much of it cut, held by one side or two: there much falls. */
    void makeDense(int w, int h, int bridges) {
        tokens.clear();
        names.clear();
        word("plate");
        tokens.add("" + w);
        tokens.add("" + h);
        word(";");
        sheet = new Slow(w, h);
        for (int y = 0; y < h; y++) {
            word("row");
            tokens.add("" + y);
            sheet.through[y] = squares(w, 2);
            ended();
        }
        hold();
        ended();
        for (int k = 0; k < 3; k++) {
            worth();
            ended();
        }
        for (int k = 0; k < 2; k++) {
            shape();
            ended();
        }
        for (int k = 0; k < bridges; k++) {
            bridge();
            ended();
        }
    }

    private void ended() {
        word(";");
        sheet.statements++;
    }

    private void statement(int bridges) {
        switch (random.nextInt(12)) {
            case 0: case 1: case 2: case 3: row(); break;
            case 4: shape(); break;
            case 5: if (names.isEmpty()) { shape(); } else { place(); } break;
            case 6: hold(); break;
            case 7: worth(); break;
            case 8:
                if (random.nextBoolean()) {
                    word("brush");
                    sheet.brush = number(0, random.nextBoolean() ? 4 : 400);
                } else {
                    word("wear");
                    sheet.wear = number(0, random.nextBoolean() ? 200 : 999);
                }
                break;
            default:
                if (sheet.spans.size() < bridges) {
                    bridge();
                } else {
                    row();
                }
        }
    }

    private void row() {
        word("row");
        int y = number(0, sheet.high - 1);
        boolean[] row = squares(1 + random.nextInt(sheet.wide), 1 + random.nextInt(3));
        System.arraycopy(row, 0, sheet.through[y], 0, row.length);
    }

    private void shape() {
        if (names.size() == 8) {
            row();
            return;
        }
        word("shape");
        String name = "ab" + (char) ('a' + names.size()) + (random.nextBoolean() ? "t" : "");
        names.add(name);
        word(name);
        boolean[][] s = new boolean[1 + random.nextInt(random.nextBoolean() ? 3 : 8)][];
        int length = 1 + random.nextInt(random.nextBoolean() ? 3 : 8);
        for (int k = 0; k < s.length; k++) {
            s[k] = squares(length, 2);
        }
        sheet.shapes.add(s);
    }

    private void place() {
        word("put");
        int k = random.nextInt(names.size());
        word(names.get(k));
        int x = number(0, sheet.wide - 1);
        int y = number(0, sheet.high - 1);
        int turns = 0;
        if (random.nextBoolean()) {
            word("turned");
            turns = number(0, 3);
        }
        sheet.putShape(k, x, y, turns);
    }

    private void hold() {
        word("hold");
        sheet.held = new boolean[4];
        for (int k = random.nextInt(3); k >= 0; k--) {
            sheet.held[side()] = true;
        }
    }

    private void worth() {
        word("worth");
        int x = number(0, sheet.wide - 1);
        int y = number(0, sheet.high - 1);
        word("to");
        int toX = number(x, sheet.wide - 1);
        int toY = number(y, sheet.high - 1);
        int n = number(0, random.nextBoolean() ? 4 : 99);
        for (int b = y; b <= toY; b++) {
            for (int a = x; a <= toX; a++) {
                sheet.worth[b][a] = n;
            }
        }
    }

    private void bridge() {
        word("bridge");
        Slow.Span s = new Slow.Span();
        s.kind = random.nextInt(4);
        word(new String[] {"straight", "broad", "corner", "told"}[s.kind]);
        int x = number(0, sheet.wide - 1);
        int y = number(0, sheet.high - 1);
        int most = random.nextInt(3) == 0 ? 20 : 4;
        if (s.kind == 3) {
            s.squares.add(y * 100 + x);
            for (int k = random.nextInt(8); k > 0; k--) {
                word(",");
                x = number(0, sheet.wide - 1);
                y = number(0, sheet.high - 1);
                s.squares.add(y * 100 + x);
            }
            s.lasts = 60 * s.squares.size();
        } else {
            int side = side();
            int length = number(1, most);
            sheet.span(s, x, y, side, length);
            s.lasts = 100;
            if (s.kind == 1) {
                int broad = number(2, 4);
                s.lasts = 100 * broad;
                int right = (side + 1) % 4;
                for (int k = 1; k < broad; k++) {
                    sheet.span(s, x + k * Slow.DX[right], y + k * Slow.DY[right], side, length);
                }
            } else if (s.kind == 2) {
                s.lasts = 80;
                int second = side();
                int more = number(1, most);
                int lastX = x + (length - 1) * Slow.DX[side];
                int lastY = y + (length - 1) * Slow.DY[side];
                sheet.span(s, lastX + Slow.DX[second], lastY + Slow.DY[second], second, more);
            }
        }
        s.hidden = random.nextInt(3) == 0;
        if (s.hidden) {
            word("hidden");
        }
        sheet.in |= 1 << sheet.spans.size();
        sheet.spans.add(s);
    }

    /** The text: a blank only where two tokens would run together, and here and there one more. */
    String text() {
        StringBuilder text = new StringBuilder();
        for (int k = 0; k < tokens.size(); k++) {
            if (needsBlank(text, tokens.get(k)) || random.nextInt(8) == 0) {
                text.append(random.nextInt(5) == 0 ? '\n' : ' ');
            }
            text.append(tokens.get(k));
        }
        return text.toString();
    }

    private static boolean needsBlank(StringBuilder text, String token) {
        if (text.length() == 0) {
            return false;
        }
        char last = text.charAt(text.length() - 1);
        char next = token.charAt(0);
        return Character.isLetter(last) && Character.isLetter(next) || Character.isDigit(last) && Character.isDigit(next);
    }

    /** Where each token begins in a text of them. */
    int[] places(String text) {
        int[] at = new int[tokens.size()];
        int p = 0;
        for (int k = 0; k < at.length; k++) {
            while (text.charAt(p) == ' ' || text.charAt(p) == '\n') {
                p++;
            }
            at[k] = p;
            p += tokens.get(k).length();
        }
        return at;
    }
}
