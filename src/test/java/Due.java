/** What the tests share: answers that are due, and texts told byte by byte. */
final class Due {
    private int wrong = 0;
    private int asked = 0;
    private String sentence = "";

    /** The document's sentence that the next answers belong to. */
    void says(String words) {
        sentence = "'" + words + "': ";
    }

    void is(String call, long got, long want) {
        asked++;
        if (got != want) {
            wrong++;
            if (wrong <= 40) {
                System.out.println(sentence + call + " answered " + got + ", due is " + want);
            }
        }
    }

    void is(String call, boolean got, boolean want) {
        is(call, got ? 1L : 0L, want ? 1L : 0L);
    }

    boolean allRight() {
        return wrong == 0;
    }

    void end() {
        System.out.println(asked + " answers, " + wrong + " not as due");
        if (wrong != 0 || asked == 0) {
            System.exit(1);
        }
    }

    /** Feeds a text, filled up with blanks to whole twenties, and answers its length. */
    static int feed(TinStencils x, String text) {
        int length = text.length();
        for (int from = 0; from < length; from += 20) {
            int[] numbers = new int[5];
            for (int k = 0; k < 20; k++) {
                int sign = from + k < length ? text.charAt(from + k) : ' ';
                numbers[k / 4] = (numbers[k / 4] << 8) | sign;
            }
            x.feed(numbers[0], numbers[1], numbers[2], numbers[3], numbers[4]);
        }
        return length;
    }

    static int tell(TinStencils x, int sheet, String text) {
        return x.plate(sheet, feed(x, text));
    }

    /** A new object with one sheet 0 of this text. */
    static TinStencils with(String text) {
        TinStencils x = new TinStencils();
        if (tell(x, 0, text) < 0) {
            throw new IllegalStateException("fault at " + x.fault() + " of " + text);
        }
        return x;
    }

    /** A text whose rows are drawn: # stays, . is cut through. */
    static String drawn(String... rows) {
        StringBuilder text = new StringBuilder("plate " + rows[0].length() + " " + rows.length + ";");
        for (int y = 0; y < rows.length; y++) {
            text.append("row " + y + " " + rows[y].replace('#', 's').replace('.', 't') + ";");
        }
        return text.toString();
    }
}
