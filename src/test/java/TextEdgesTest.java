/** Each sentence of the document about texts that names a boundary, with a test of its own: the texts and their faults. */
public final class TextEdgesTest {
    private static final Due DUE = new Due();
    private static final String[] WORDS = {"plate", "row", "shape", "put", "turned", "hold", "worth", "to", "brush", "wear", "bridge",
        "straight", "broad", "corner", "told", "hidden", "north", "east", "south", "west"};

    public static void main(String[] args) {
        statements();
        size();
        squares();
        squaresOfShapes();
        wordsOfShapes();
        nameLength();
        nameWords();
        nameNew();
        shapesAtMost();
        nameToldAhead();
        namesOfOtherTexts();
        sides();
        places();
        secondOfWorth();
        turns();
        numbersOfStatements();
        lengths();
        broad();
        bridgesAtMost();
        toldAtMost();
        digits();
        longTokens();
        blanks();
        bytesOfNoToken();
        moreMustCome();
        endedTooSoon();
        goneOnTooFar();
        oneLeftOut();
        sixtyFirst();
        firstFaultCounts();
        DUE.end();
    }

    private static void at(String... texts) {
        Marks.at(DUE, texts);
    }

    private static String text(int statements) {
        StringBuilder text = new StringBuilder("plate 2 2;");
        for (int k = 0; k < statements; k++) {
            text.append(k % 3 == 0 ? "row 1 ts;" : k % 3 == 1 ? "hold north;" : "brush 9;");
        }
        return text.toString();
    }

    private static void statements() {
        DUE.says("at most 60 STATEMENTS");
        for (int n : new int[] {0, 1, 2, 59, 60}) {
            TinStencils x = new TinStencils();
            DUE.is("plate of " + n, Due.tell(x, 0, text(n)), n);
            DUE.is("sheet(0, 2)", x.sheet(0, 2), n);
        }
        at(text(60) + "^row 1 ts;", text(60) + "^row 1 ts;hold north;");
    }

    private static void size() {
        DUE.says("WIDE, HIGH: 1 to 20");
        at("plate ^0 1;", "plate 1 ^0;", "plate 1 1;", "plate 20 1;", "plate 1 20;", "plate 20 20;", "plate ^21 1;", "plate 1 ^21;",
            "plate ^9999 1;", "plate 1 ^9999;");
        int[][] sizes = {{1, 1}, {1, 20}, {20, 1}, {20, 20}};
        for (int[] size : sizes) {
            TinStencils x = Due.with("plate " + size[0] + " " + size[1] + ";");
            DUE.is("WIDE", x.sheet(0, 0), size[0]);
            DUE.is("HIGH", x.sheet(0, 1), size[1]);
            DUE.is("squares", x.sheet(0, 9), size[0] * size[1]);
        }
    }

    private static void squares() {
        DUE.says("SQUARES: a word of letters s and t alone");
        for (char c = 'a'; c <= 'z'; c++) {
            String mark = c == 's' || c == 't' ? "" : "^";
            at("plate 3 1;row 0 " + mark + c + ";", "plate 3 1;row 0 " + mark + "st" + c + ";", "plate 3 1;row 0 " + mark + c + "st;",
                "plate 3 1;shape x " + mark + c + "s;");
        }
        DUE.says("1 to 20");
        at("plate 20 1;row 0 ^;", "plate 20 1;row 0 s;", "plate 20 1;row 0 " + "t".repeat(19) + ";", "plate 20 1;row 0 " + "t".repeat(20) + ";",
            "plate 20 1;row 0 ^" + "t".repeat(21) + ";");
        DUE.says("not above WIDE");
        for (int wide = 1; wide < 20; wide++) {
            at("plate " + wide + " 1;row 0 " + "t".repeat(wide) + ";", "plate " + wide + " 1;row 0 ^" + "t".repeat(wide + 1) + ";");
        }
    }

    private static void squaresOfShapes() {
        DUE.says("of a \"shape\": to 8");
        for (int wide : new int[] {1, 7, 8, 9, 20}) {
            at("plate " + wide + " 1;shape x ^;", "plate " + wide + " 1;shape x t;", "plate " + wide + " 1;shape x tttttttt;",
                "plate " + wide + " 1;shape x ^ttttttttt;");
        }
        DUE.says("all alike long");
        at("plate 9 9;shape x ts tt ss;", "plate 9 9;shape x ts ^t;", "plate 9 9;shape x ts ^tst;", "plate 9 9;shape x s s s s s s s ^ss;",
            "plate 9 9;shape x ss ss ss ss ss ss ss ^s;", "plate 9 9;shape x ss ^sx;");
    }

    private static void wordsOfShapes() {
        DUE.says("at most 8 words");
        at("plate 1 1;shape x s s s s s s s;", "plate 1 1;shape x s s s s s s s s;", "plate 1 1;shape x s s s s s s s s ^s;",
            "plate 1 1;shape x s s s s s s s s ^s s;", "plate 1 1;shape x s s s s s s s s ^row;");
    }

    private static void nameLength() {
        DUE.says("NAME: a word of 1 to 8 letters");
        at("plate 1 1;shape ^;", "plate 1 1;shape ^1 s;", "plate 1 1;shape a s;", "plate 1 1;shape abcdefg s;", "plate 1 1;shape abcdefgh s;",
            "plate 1 1;shape ^abcdefghi s;", "plate 1 1;shape abcdefgh s;put abcdefgh 0 0;", "plate 1 1;shape abcdefgh s;put ^abcdefghi 0 0;",
            "plate 1 1;shape abcdefgh s;put ^abcdefg 0 0;", "plate 1 1;shape zzzzzzzz s;put zzzzzzzz 0 0;");
    }

    private static void nameWords() {
        DUE.says("none of the words in this text");
        for (String word : WORDS) {
            at("plate 1 1;shape ^" + word + " s;", "plate 1 1;shape a s;put ^" + word + " 0 0;");
        }
        // words of the other letters of this text are names: SQUARES are told by their letters alone
        at("plate 1 1;shape s s;shape t t;put s 0 0;put t 0 0;", "plate 1 1;shape plates s;", "plate 1 1;shape norths s;");
    }

    private static void nameNew() {
        DUE.says("that of \"shape\" is a new one");
        at("plate 1 1;shape a s;shape b s;shape ^a s;", "plate 1 1;shape a s;shape ^a t;", "plate 1 1;shape a s;shape aa s;shape aaa s;",
            "plate 1 1;shape ab s;shape ba s;");
        for (char c : new char[] {'a', 'b', 'm', 'y', 'z'}) {
            StringBuilder text = new StringBuilder("plate 1 1;");
            for (int length = 1; length <= 8; length++) {
                text.append("shape " + String.valueOf(c).repeat(length) + " s;");
                at(text.toString(), text + "shape ^" + String.valueOf(c).repeat(length) + " s;");
            }
        }
    }

    private static void shapesAtMost() {
        DUE.says("at most 8");
        StringBuilder text = new StringBuilder("plate 1 1;");
        for (int k = 1; k <= 8; k++) {
            text.append("shape n" + "x".repeat(k - 1) + " s;");
            DUE.is("shapes", Due.with(text.toString()).sheet(0, 3), k);
        }
        at(text.toString(), text + "put nxxxxxxx 0 0;");
        DUE.says("the ninth shape's NAME");
        at(text + "shape ^o s;", text + "shape ^n s;", text + "shape^", text + "shape ^;", text + "brush 1;shape ^o t;");
    }

    private static void nameToldAhead() {
        DUE.says("that of \"put\" one told ahead");
        at("plate 1 1;put ^a 0 0;shape a s;", "plate 1 1;shape a s;put a 0 0;", "plate 1 1;shape a s;put ^b 0 0;shape b s;",
            "plate 1 1;shape a s;put ^aa 0 0;", "plate 1 1;shape aa s;put ^a 0 0;");
    }

    private static void namesOfOtherTexts() {
        DUE.says("told ahead");
        TinStencils x = Due.with("plate 1 1;shape a t;");
        DUE.is("a name of the text that was", Due.tell(x, 0, "plate 1 1;put a 0 0;"), -1);
        DUE.is("its fault", x.fault(), 14);
        DUE.is("a name of another sheet", Due.tell(x, 1, "plate 1 1;put a 0 0;"), -1);
        DUE.is("a faulty text tells a name", Due.tell(x, 1, "plate 1 1;shape b t;#"), -1);
        DUE.is("it is gone", Due.tell(x, 1, "plate 1 1;put b 0 0;"), -1);
        DUE.is("its fault", x.fault(), 14);
        DUE.is("the name is new again", Due.tell(x, 0, "plate 1 1;shape a s;put a 0 0;"), 2);
    }

    private static void sides() {
        DUE.says("SIDE: north, east, south, west");
        at("plate 1 1;hold ^;", "plate 1 1;hold ^up;", "plate 1 1;hold ^nort;", "plate 1 1;hold ^northe;", "plate 1 1;hold ^1;",
            "plate 1 1;hold north ^told;", "plate 1 1;hold ^hidden;", "plate 1 1;hold north east south west north;");
        String[] sides = {"north", "east", "south", "west"};
        for (int k = 0; k < 4; k++) {
            DUE.is("hold " + sides[k], Due.with("plate 1 1;hold " + sides[k] + ";").sheet(0, 6), 1 << k);
            at("plate 1 1;bridge straight 0 0 " + sides[k] + " 1;", "plate 1 1;bridge corner 0 0 " + sides[k] + " 1 " + sides[3 - k] + " 1;");
        }
    }

    private static void places() {
        DUE.says("X below WIDE, Y below HIGH");
        String[] starts = {"row 0 s;shape a s;put a ", "worth ", "bridge straight ", "bridge broad ", "bridge corner ", "bridge told ",
            "bridge told 0 0,"};
        String[] ends = {";", " to 2 1 5;", " north 1;", " north 1 2;", " north 1 east 1;", ";", ",0 0;"};
        for (int k = 0; k < starts.length; k++) {
            String start = "plate 3 2;" + starts[k];
            at(start + "0 0" + ends[k], start + "2 1" + ends[k], start + "^3 1" + ends[k], start + "2 ^2" + ends[k], start + "^20 0" + ends[k],
                start + "0 ^20" + ends[k]);
        }
        // what would do for the other of X and Y doesn't for this one
        for (int k = 0; k < starts.length; k++) {
            String end = ends[k].replace("to 2 1", "to 2 8");
            at("plate 3 9;" + starts[k] + "^5 1" + end, "plate 3 9;" + starts[k] + "^8 8" + end, "plate 3 9;" + starts[k] + "2 8" + end);
            end = ends[k].replace("to 2 1", "to 8 2");
            at("plate 9 3;" + starts[k] + "5 ^5" + end, "plate 9 3;" + starts[k] + "1 ^8" + end, "plate 9 3;" + starts[k] + "8 2" + end);
        }
        at("plate 3 9;worth 0 0 to ^5 1 5;", "plate 3 9;worth 0 0 to 2 8 5;", "plate 9 3;worth 0 0 to 1 ^5 5;", "plate 9 3;worth 0 0 to 8 2 5;",
            "plate 3 9;worth 2 3 to ^1 5 5;", "plate 3 9;worth 0 3 to ^4 5 5;");
        at("plate 3 2;row 0 s;", "plate 3 2;row 1 s;", "plate 3 2;row ^2 s;", "plate 3 20;row 19 s;", "plate 3 20;row ^20 s;",
            "plate 3 2;worth 0 0 to 2 1 5;", "plate 3 2;worth 0 0 to ^3 1 5;", "plate 3 2;worth 0 0 to 2 ^2 5;",
            "plate 20 20;bridge told 19 19;", "plate 20 20;bridge told ^20 19;", "plate 20 20;bridge told 19 ^20;");
    }

    private static void secondOfWorth() {
        DUE.says("the second ones of \"worth\" not below the first");
        at("plate 5 5;worth 2 3 to 2 3 1;", "plate 5 5;worth 2 3 to 3 4 1;", "plate 5 5;worth 2 3 to ^1 3 1;", "plate 5 5;worth 2 3 to 2 ^2 1;",
            "plate 5 5;worth 2 3 to 4 ^0 1;", "plate 5 5;worth 0 0 to 0 0 1;", "plate 5 5;worth 4 4 to 4 4 1;");
    }

    private static void turns() {
        DUE.says("TURNS 0 to 3");
        for (int k = 0; k <= 3; k++) {
            at("plate 1 1;shape a s;put a 0 0 turned " + k + ";");
        }
        at("plate 1 1;shape a s;put a 0 0 turned ^4;", "plate 1 1;shape a s;put a 0 0 turned ^9999;",
            "plate 1 1;shape a s;put a 0 0 turned ^-1;", "plate 1 1;shape a s;put a 0 0 turned ^;");
    }

    private static void numbersOfStatements() {
        String worth = "plate 1 1;worth 0 0 to 0 0 ";
        DUE.says("N of \"worth\" 0 to 99");
        at(worth + "0;", worth + "99;", worth + "^100;");
        DUE.is("worth 0", Due.with(worth + "0;").square(0, 0, 0, 2), 0);
        DUE.is("worth 99", Due.with(worth + "99;").square(0, 0, 0, 2), 99);
        DUE.says("of \"brush\" 0 to 400");
        at("plate 1 1;brush 0;", "plate 1 1;brush 400;", "plate 1 1;brush ^401;");
        DUE.is("brush 400", Due.with("plate 1 1;brush 400;").sheet(0, 7), 400);
        DUE.is("brush 0", Due.with("plate 1 1;brush 5;brush 0;").sheet(0, 7), 0);
        DUE.says("of \"wear\" 0 to 999");
        at("plate 1 1;wear 0;", "plate 1 1;wear 999;", "plate 1 1;wear ^1000;");
        DUE.is("wear 999", Due.with("plate 1 1;wear 999;").sheet(0, 8), 999);
        DUE.is("wear 0", Due.with("plate 1 1;wear 5;wear 0;").sheet(0, 8), 0);
    }

    private static void lengths() {
        DUE.says("LONG 1 to 20");
        String[] starts = {"bridge straight 0 0 north ", "bridge broad 0 0 north ", "bridge corner 0 0 north ", "bridge corner 0 0 north 1 east "};
        String[] ends = {";", " 2;", " east 1;", ";"};
        for (int k = 0; k < starts.length; k++) {
            String start = "plate 1 1;" + starts[k];
            at(start + "^0" + ends[k], start + "1" + ends[k], start + "20" + ends[k], start + "^21" + ends[k], start + "^;");
        }
    }

    private static void broad() {
        DUE.says("BROAD 2 to 4");
        String start = "plate 1 1;bridge broad 0 0 north 1 ";
        at(start + "^1;", start + "2;", start + "3;", start + "4;", start + "^5;", start + "^;", start + "^0;");
    }

    private static void bridgesAtMost() {
        DUE.says("At most 12 bridges");
        String three = "bridge straight 0 0 north 1;bridge broad 0 0 north 1 2;bridge corner 0 0 north 1 east 1 hidden;";
        String eleven = "plate 1 1;" + three.repeat(3) + "bridge told 0 0;bridge told 0 0;";
        DUE.is("eleven", Due.with(eleven).sheet(0, 4), 11);
        DUE.is("twelve", Due.with(eleven + "bridge told 0 0;").sheet(0, 4), 12);
        DUE.is("twelve in", Due.with(eleven + "bridge told 0 0;").sheet(0, 5), 4095);
        DUE.says("the thirteenth \"bridge\"");
        at(eleven + "bridge told 0 0;^bridge told 0 0;", eleven + "bridge told 0 0;wear 3; ^bridge", eleven + "bridge told 0 0;^bridge;");
    }

    private static void toldAtMost() {
        DUE.says("\"told\": at most 8 squares");
        String seven = "plate 9 1;bridge told 0 0,1 0,2 0,3 0,4 0,5 0,6 0";
        DUE.is("one", Due.with("plate 9 1;bridge told 8 0;").bridge(0, 0, 1), 1);
        DUE.is("seven", Due.with(seven + ";").bridge(0, 0, 1), 7);
        DUE.is("eight", Due.with(seven + ",7 0;").bridge(0, 0, 1), 8);
        DUE.says("the comma ahead of a ninth square");
        at(seven + ",7 0^,8 0;", seven + ",7 0 ^, 8 0;", seven + ",7 0^,", "plate 9 1;bridge told 0 0" + ",0 0".repeat(7) + "^,0 0;",
            seven + ",7 0 hidden;", seven + ",7 0^,hidden;");
    }

    private static void digits() {
        DUE.says("Each number of one to four digits");
        at("plate 0001 0020;", "plate ^00001 1;", "plate 1 ^00001;", "plate 1 1;row 0000 s;", "plate 1 1;row ^00000 s;",
            "plate 1 1;shape a s;put a 0000 0000 turned 0003;", "plate 1 1;shape a s;put a ^00000 0;", "plate 1 1;shape a s;put a 0 ^00000;",
            "plate 1 1;shape a s;put a 0 0 turned ^00003;", "plate 1 1;worth 0000 0000 to 0000 0000 0099;",
            "plate 1 1;worth 0 0 to ^00000 0 1;", "plate 1 1;worth 0 0 to 0 ^00000 1;", "plate 1 1;worth 0 0 to 0 0 ^00001;",
            "plate 1 1;brush 0400;", "plate 1 1;brush ^00400;", "plate 1 1;wear 0999;", "plate 1 1;wear ^00999;",
            "plate 1 1;bridge broad 0 0 north 0020 0004;", "plate 1 1;bridge broad 0 0 north ^00020 4;",
            "plate 1 1;bridge broad 0 0 north 20 ^00004;", "plate 1 1;brush ^" + "0".repeat(40) + ";", "plate 1 1;brush ^4294967296;");
    }

    private static void longTokens() {
        DUE.says("Tokens as long as they go");
        at("plate5 5;row0ts;brush7;", "^platex 5 5;", "plate 11^;", "plate ^111;", "plate 5 5;^holdnorth;", "plate 5 5;hold ^northeast;",
            "plate 5 5;row 0 s ^t;", "plate 5 5;row 0 st;", "plate 5 5;bridge told0 0,1 1hidden;", "plate 5 5;brush 4 ^0;",
            "plate 5 5;shape ast^;",
            "plate 5 5;^;brush 1;", "plate 5 5;bridge told 0 0,^,1 1;");
    }

    private static void blanks() {
        DUE.says("between them blanks (bytes 32 and 10)");
        at("plate 5 5;shape\na t;put a 0 0;put  a 0 0;put\na 0 0;", "plate 5 5;shape a t;shape\n^a t;");
        at("plate\n5\n5\n;\nrow\n0\nts\n;", "plate  5 \n 5;", "plate 5 5 ; row 0 ts ;", "^pl ate 5 5;");
        for (int b = 0; b < 256; b++) {
            String mark = b == 32 || b == 10 ? "" : "^";
            if (b != '^') {
                at("plate 1 1;" + mark + (char) b + "brush 1;");
            }
        }
        Marks.fault(DUE, "plate 1 1;^brush 1;", 10);
    }

    private static void bytesOfNoToken() {
        DUE.says("or byte that begins none");
        for (int b = 0; b < 256; b++) {
            boolean begins = b >= 'a' && b <= 'z' || b >= '0' && b <= '9' || b == 32 || b == 10 || b == ';' || b == ',';
            if (!begins) {
                Marks.fault(DUE, (char) b + "plate 1 1;", 0);
                Marks.fault(DUE, "plate" + (char) b + "1 1;", 5);
                Marks.fault(DUE, "plate 1" + (char) b + "1;", 7);
                Marks.fault(DUE, "plate 1 1;row 0 s" + (char) b, 17);
                Marks.fault(DUE, "plate 1 1;" + (char) b, 10);
            }
        }
    }

    private static void moreMustCome() {
        DUE.says("the text's length, if more must come");
        String[] parts = {"plate 3 3;", "row 0 st;", "shape a st ss;", "put a 0 0 turned 1;", "hold north west;", "worth 0 0 to 1 1 5;", "brush 1;",
            "wear 1;", "bridge straight 0 0 east 2 hidden;", "bridge broad 0 0 east 2 2;", "bridge corner 0 0 east 2 south 2;",
            "bridge told 0 0 , 1 1 hidden;"};
        StringBuilder ahead = new StringBuilder();
        for (String part : parts) {
            String[] tokens = part.replace(";", "").split(" ");
            StringBuilder text = new StringBuilder(ahead);
            for (String token : tokens) {
                text.append(token).append(' ');
                Marks.fault(DUE, text.toString(), text.length());
                Marks.fault(DUE, text.toString().trim(), text.toString().trim().length());
            }
            ahead.append(part);
            at(ahead.toString());
        }
        Marks.fault(DUE, "", 0);
    }

    private static final String[] WHOLE = {"plate 3 3", "row 0 st", "shape c st", "shape c st ss", "put c 0 0", "put c 0 0 turned 1", "hold north",
        "hold north west", "worth 0 0 to 1 1 5", "brush 1", "wear 1", "bridge straight 0 0 east 2", "bridge straight 0 0 east 2 hidden",
        "bridge broad 0 0 east 2 2", "bridge broad 0 0 east 2 2 hidden", "bridge corner 0 0 east 2 south 2",
        "bridge corner 0 0 east 2 south 2 hidden", "bridge told 0 0", "bridge told 0 0 hidden", "bridge told 0 0 , 1 1",
        "bridge told 0 0 , 1 1 hidden"};

    private static boolean isWhole(String statement) {
        for (String whole : WHOLE) {
            if (whole.equals(statement)) {
                return true;
            }
        }
        return false;
    }

    /** Each statement broken off by its sign behind each token: the sign is the fault, unless the statement is whole there. */
    private static void endedTooSoon() {
        DUE.says("the first token with which no such text goes on (a ; too soon)");
        for (String whole : WHOLE) {
            String ahead = whole.startsWith("plate") ? "" : whole.startsWith("put") ? "plate 3 3;shape c st;" : "plate 3 3;";
            String[] tokens = whole.split(" ");
            StringBuilder text = new StringBuilder();
            for (String token : tokens) {
                text.append(text.length() == 0 ? "" : " ").append(token);
                at(ahead + text + (isWhole(text.toString()) ? ";" : "^;"));
                at(ahead + text + (isWhole(text.toString()) ? " ;" : " ^;"));
            }
        }
    }

    /** What may stand behind a whole statement in place of its sign is the fault, of whatever kind it is. */
    private static void goneOnTooFar() {
        DUE.says("the first token with which no such text goes on (one more than there may be)");
        for (String whole : WHOLE) {
            String ahead = whole.startsWith("plate") ? "" : whole.startsWith("put") ? "plate 3 3;shape c st;" : "plate 3 3;";
            at(ahead + whole + " ^1;", ahead + whole + " ^plate;", ahead + whole + " ^row 0 s;", ahead + whole + " ^x;");
            boolean told = whole.startsWith("bridge told") && !whole.endsWith("hidden");
            at(ahead + whole + (told ? ",^;" : "^,0 0;"));
            boolean hides = whole.startsWith("bridge") && !whole.endsWith("hidden");
            at(ahead + whole + (hides ? " hidden;" : " ^hidden;"));
            boolean turns = whole.equals("put c 0 0");
            at(ahead + whole + (turns ? " turned ^;" : " ^turned 0;"));
            boolean sides = whole.startsWith("hold");
            at(ahead + whole + (sides ? " east;" : " ^east;"));
            boolean squares = whole.startsWith("shape");
            at(ahead + whole + (squares ? " ts;" : " ^ts;"));
        }
    }

    private static void oneLeftOut() {
        DUE.says("the first token with which no such text goes on (where one is left out)");
        at("^3;", "^3 3;", "^;", "^,", "^row 0 st;", "^3 3;row 0 st;");
        at("plate ^;", "plate 3^;", "plate 3 3 ^row 0 st;", "plate 3 3;row ^st;", "plate 3 3;^0 st;", "plate 3 3;shape ^;", "plate 3 3;shape st^;",
            "plate 3 3;shape a s;put ^0 0;", "plate 3 3;shape a s;put a 0 ^turned 1;", "plate 3 3;shape a s;put a 0 0 ^1;",
            "plate 3 3;^north;", "plate 3 3;worth 0 ^to 1 1 5;", "plate 3 3;worth 0 0 ^1 1 5;", "plate 3 3;worth 0 0 to 1 1^;",
            "plate 3 3;^5;", "plate 3 3;bridge ^0 0 east 2;", "plate 3 3;bridge straight 0 ^east 2;", "plate 3 3;bridge straight 0 0 ^2;",
            "plate 3 3;bridge straight 0 0 east^;", "plate 3 3;bridge broad 0 0 ^2 2;", "plate 3 3;bridge broad 0 0 east 2^;",
            "plate 3 3;bridge corner 0 0 ^2 south 2;", "plate 3 3;bridge corner 0 0 east ^south 2;", "plate 3 3;bridge corner 0 0 east 2 ^2;",
            "plate 3 3;bridge told ^, 1 1;", "plate 3 3;bridge told 0 ^, 1 1;", "plate 3 3;bridge told 0 0 ^1 1;", "plate 3 3;^told 0 0;");
    }

    private static void sixtyFirst() {
        DUE.says("the 61st STATEMENT: where it begins");
        at(text(60) + "^brush 1;", text(60) + "  \n^brush 1;", text(60) + "^brush", text(60) + "^;", text(60) + "^#", text(60) + "^brush 401;",
            text(60) + "^shape row s;", text(60), text(60) + " \n ");
        at(text(59) + "brush ^401;", text(59) + "^#", text(59) + "brush 1^");
    }

    private static void firstFaultCounts() {
        DUE.says("the first token (or byte that begins none) with which no such text goes on");
        at("plate ^0 0;#", "plate 1 ^0;row 9 s;", "plate 1 1;row ^9 x;#", "plate 1 1;row 0 ^x#;", "plate 1 1;^# 00000");
    }
}
