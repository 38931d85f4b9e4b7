/** Texts in which the mark ^ stands where the fault is due; a text without a mark has none. */
final class Marks {
    private Marks() {
    }

    /** Each text is told to a new object, and is taken or refused as its mark says. */
    static void at(Due due, String... texts) {
        for (String marked : texts) {
            int place = marked.indexOf('^');
            fault(due, place < 0 ? marked : marked.substring(0, place) + marked.substring(place + 1), place);
        }
    }

    /** A place below 0: no fault, and as many statements as signs ; behind the first. */
    static void fault(Due due, String text, int place) {
        TinStencils x = new TinStencils();
        due.is("<" + text + ">", Due.tell(x, 3, text), place < 0 ? count(text, ';') - 1 : -1);
        due.is("fault of <" + text + ">", x.fault(), place);
        due.is("told by <" + text + ">", x.count(0), place < 0 ? 1 : 0);
        due.is("refused of <" + text + ">", x.count(12), place < 0 ? 0 : 1);
        due.is("tape behind <" + text + ">", x.count(1), 0);
    }

    private static int count(String text, char sign) {
        int n = 0;
        for (char c : text.toCharArray()) {
            n += c == sign ? 1 : 0;
        }
        return n;
    }
}
