import java.util.ArrayList;
import java.util.List;
import java.util.regex.Matcher;
import java.util.regex.Pattern;

/**
 * A plain reading of the document's grammar: every form of a statement is written out, and the fault is at the first token
 * with which none of these forms goes on.
 */
final class PlainText {
    private static final Pattern TOKEN = Pattern.compile("[a-z]+|[0-9]+|[^ \n]", Pattern.DOTALL);
    private static final List<String> WORDS = List.of("plate", "row", "shape", "put", "turned", "hold", "worth", "to", "brush", "wear",
        "bridge", "straight", "broad", "corner", "told", "hidden", "north", "east", "south", "west");
    private static final List<String[]> HEAD = List.<String[]>of(new String[] {"plate", "1-20", "1-20", ";"});
    private static final List<String[]> FORMS = forms();

    private final List<String> tokens = new ArrayList<>();
    private final List<Integer> places = new ArrayList<>();
    private final List<String> names = new ArrayList<>();
    private int wide = 0;
    private int high = 0;
    private int bridges = 0;
    /** How many statements the text has, up to its fault. */
    int statements = 0;
    /** Where the fault is; -1: there is none. */
    final int fault;

    PlainText(String text) {
        Matcher m = TOKEN.matcher(text);
        while (m.find()) {
            tokens.add(m.group());
            places.add(m.start());
        }
        places.add(text.length());
        fault = find();
    }

    private static List<String[]> forms() {
        List<String> all = new ArrayList<>(List.of("row Y ROW ;", "put OLD X Y ;", "put OLD X Y turned 0-3 ;",
            "worth X Y to X2 Y2 0-99 ;", "brush 0-400 ;", "wear 0-999 ;"));
        for (int k = 0; k < 8; k++) {
            all.add("shape NEW WORD" + " SAME".repeat(k) + " ;");
        }
        // so many sides that no text has more
        for (int k = 0; k < 30; k++) {
            all.add("hold SIDE" + " SIDE".repeat(k) + " ;");
        }
        for (String end : List.of(" ;", " hidden ;")) {
            all.add("bridge straight X Y SIDE 1-20" + end);
            all.add("bridge broad X Y SIDE 1-20 2-4" + end);
            all.add("bridge corner X Y SIDE 1-20 SIDE 1-20" + end);
            for (int k = 0; k < 8; k++) {
                all.add("bridge told X Y" + " , X Y".repeat(k) + end);
            }
        }
        List<String[]> split = new ArrayList<>();
        for (String form : all) {
            split.add(form.split(" "));
        }
        return split;
    }

    private int find() {
        int next = past(0, HEAD);
        if (next < 0) {
            return places.get(-1 - next);
        }
        wide = Integer.parseInt(tokens.get(1));
        high = Integer.parseInt(tokens.get(2));
        while (next < tokens.size()) {
            int from = next;
            next = statements == 60 ? -1 - from : past(from, FORMS);
            if (next < 0) {
                return places.get(-1 - next);
            }
            statements++;
            bridges += tokens.get(from).equals("bridge") ? 1 : 0;
            if (tokens.get(from).equals("shape")) {
                names.add(tokens.get(from + 1));
            }
        }
        return -1;
    }

    /** The token behind what begins here; or, below 0, -1 less the token with which no form goes on. */
    private int past(int from, List<String[]> forms) {
        List<String[]> alive = forms;
        for (int k = 0; from + k < tokens.size(); k++) {
            List<String[]> still = new ArrayList<>();
            for (String[] form : alive) {
                if (fits(form[k], from, k)) {
                    still.add(form);
                }
            }
            if (still.isEmpty()) {
                return -1 - (from + k);
            }
            if (still.get(0)[k].equals(";")) {
                return from + k + 1;
            }
            alive = still;
        }
        return -1 - tokens.size();
    }

    private boolean fits(String slot, int from, int k) {
        String token = tokens.get(from + k);
        switch (slot) {
            case "X": return isNumber(token, 0, wide - 1);
            case "Y": return isNumber(token, 0, high - 1);
            case "X2": return isNumber(token, Integer.parseInt(tokens.get(from + 1)), wide - 1);
            case "Y2": return isNumber(token, Integer.parseInt(tokens.get(from + 2)), high - 1);
            case "ROW": return token.matches("[st]{1,20}") && token.length() <= wide;
            case "WORD": return token.matches("[st]{1,8}");
            case "SAME": return token.matches("[st]{1,8}") && token.length() == tokens.get(from + 2).length();
            case "SIDE": return WORDS.indexOf(token) >= 16;
            case "NEW": return token.matches("[a-z]{1,8}") && !WORDS.contains(token) && !names.contains(token) && names.size() < 8;
            case "OLD": return names.contains(token);
            case "bridge": return token.equals(slot) && bridges < 12;
            default:
                String[] bounds = slot.split("-");
                return bounds.length == 2 ? isNumber(token, Integer.parseInt(bounds[0]), Integer.parseInt(bounds[1])) : token.equals(slot);
        }
    }

    private static boolean isNumber(String token, int least, int most) {
        return token.matches("[0-9]{1,4}") && Integer.parseInt(token) >= least && Integer.parseInt(token) <= most;
    }
}
