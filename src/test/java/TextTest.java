import java.util.Random;

/** Promises 1 to 5: the tape, the texts and their faults. */
public final class TextTest {
    private static final Due DUE = new Due();

    public static void main(String[] args) {
        newObject();
        feeding();
        plating();
        wholeTexts();
        greatShapes();
        faults();
        limits();
        names();
        brokenTexts();
        shortStatements();
        DUE.end();
    }

    private static void newObject() {
        TinStencils x = new TinStencils();
        DUE.is("count(0)", x.count(0), 0);
        DUE.is("count(1)", x.count(1), 0);
        DUE.is("count(2)", x.count(2), 0);
        DUE.is("count(3)", x.count(3), 12345);
        DUE.is("fault()", x.fault(), -1);
        for (int s = -1; s <= 6; s++) {
            for (int what = -1; what <= 10; what++) {
                DUE.is("sheet(" + s + ", " + what + ")", x.sheet(s, what), -1);
            }
        }
    }

    private static void feeding() {
        TinStencils x = new TinStencils();
        for (int k = 1; k <= 60; k++) {
            DUE.is("feed " + k, x.feed(0, -1, 1, 2, 3), 20 * k);
        }
        DUE.is("feed beyond", x.feed(0, 0, 0, 0, 0), -1);
        DUE.is("count(1)", x.count(1), 1200);
        for (int k = 10; k <= 12; k++) {
            DUE.is("count(" + k + ")", x.count(k), 0);
        }
        DUE.is("plate of all", x.plate(0, 1200), -1);
        DUE.is("fault of byte 0", x.fault(), 0);
        DUE.is("count(1)", x.count(1), 0);
        DUE.is("feed again", x.feed(0, 0, 0, 0, 0), 20);
    }

    private static void plating() {
        TinStencils x = new TinStencils();
        Due.feed(x, "plate 3 2;");
        DUE.is("plate(0, 21)", x.plate(0, 21), -2);
        DUE.is("plate(0, -1)", x.plate(0, -1), -2);
        DUE.is("plate(-1, 10)", x.plate(-1, 10), -2);
        DUE.is("plate(6, 10)", x.plate(6, 10), -2);
        DUE.is("plate(MIN, MAX)", x.plate(Integer.MIN_VALUE, Integer.MAX_VALUE), -2);
        DUE.is("count(1) stays", x.count(1), 20);
        DUE.is("count(10)", x.count(10), 5);
        DUE.is("fault()", x.fault(), -1);
        DUE.is("plate(5, 10)", x.plate(5, 10), 0);
        DUE.is("count(1)", x.count(1), 0);
        DUE.is("sheet(5, 0)", x.sheet(5, 0), 3);
        DUE.is("sheet(5, 1)", x.sheet(5, 1), 2);
        DUE.is("faulty", Due.tell(x, 5, "plate 4 4;row 9 s;"), -1);
        DUE.is("fault()", x.fault(), 14);
        DUE.is("sheet(5, 0) stays", x.sheet(5, 0), 3);
        DUE.is("sheet(5, 9) stays", x.sheet(5, 9), 6);
        DUE.is("count(12)", x.count(12), 1);
        DUE.is("count(10)", x.count(10), 5);
        DUE.is("count(1)", x.count(1), 0);
        DUE.is("refused keeps the fault", x.plate(0, 1), -2);
        DUE.is("fault()", x.fault(), 14);
        DUE.is("told again", Due.tell(x, 5, "plate 4 4;row 3 ttt;"), 1);
        DUE.is("fault()", x.fault(), -1);
        DUE.is("sheet(5, 9)", x.sheet(5, 9), 13);
        DUE.is("count(0)", x.count(0), 1);
        DUE.is("text shorter than the tape", Due.feed(x, "plate 2 2;row 0 tt;"), 19);
        DUE.is("its first bytes", x.plate(4, 10), 0);
        DUE.is("sheet(4, 9)", x.sheet(4, 9), 4);
        DUE.is("the rest is gone", x.count(1), 0);
        Due.feed(x, "plate 2 2;row 00001 ttt;");
        DUE.is("cut within a number", x.plate(4, 16), -1);
        DUE.is("more must come", x.fault(), 16);
        Due.feed(x, "plate 2 2;row 01;");
        DUE.is("cut within a word", x.plate(4, 12), -1);
        DUE.is("it is no such word", x.fault(), 10);
    }

    private static void wholeTexts() {
        TinStencils x = Due.with("plate 6 4;hold north;hold south west south;brush 7;brush 400;wear 999;wear 1;"
            + "worth 1 1 to 2 2 99;worth 2 2 to 2 2 0;row 0 tttttt;row 0 ss;shape l ts ts tt;put l 4 1;put l 0 2 turned 1;"
            + "put l 5 3 turned 2;put l 0 0 turned 3;row 1 s;bridge told 0 0,0 0 , 1 1 hidden;");
        int[] sheet = {6, 4, 17, 1, 1, 1, 12, 400, 1};
        for (int k = 0; k < sheet.length; k++) {
            DUE.is("sheet(0, " + k + ")", x.sheet(0, k), sheet[k]);
        }
        DUE.is("sheet(0, 10)", x.sheet(0, 10), -1);
        DUE.is("sheet(0, -1)", x.sheet(0, -1), -1);
        int[] worth = {1, 1, 1, 1, 1, 1, 1, 99, 99, 1, 1, 1, 1, 99, 0, 1, 1, 1, 1, 1, 1, 1, 1, 1};
        for (int k = 0; k < worth.length; k++) {
            DUE.is("worth " + k, x.square(0, k % 6, k / 6, 2), worth[k]);
        }
        // turned to the right, l of 2 x 3 becomes ttt over tss; by two tt over st, st; by three sst over ttt
        String[] drawn = {"sstttt", "sttsts", "tttsts", "tssstt"};
        for (int y = 0; y < 4; y++) {
            for (int a = 0; a < 6; a++) {
                DUE.is("through " + a + " " + y, x.square(0, a, y, 0), drawn[y].charAt(a) == 't' ? 1 : 0);
            }
        }
        TinStencils most = Due.with("plate 0020 20;row 19 tttttttttttttttttttt;");
        DUE.is("sheet(0, 0)", most.sheet(0, 0), 20);
        DUE.is("sheet(0, 9)", most.sheet(0, 9), 380);
        TinStencils close = Due.with("plate5 5;row1st;\n row\n2 st ;bridge straight1 1north1;");
        DUE.is("sheet(0, 2)", close.sheet(0, 2), 3);
    }

    /** Shapes wider and higher than the sheet: what is outside doesn't count. */
    private static void greatShapes() {
        for (int turns = 0; turns < 4; turns++) {
            TinStencils x = Due.with("plate 2 2;shape a tsssst ttssss;put a 0 0 turned " + turns + ";");
            DUE.is("statements", x.sheet(0, 2), 2);
            DUE.is("shapes", x.sheet(0, 3), 1);
            // turned by 0: ts over tt; by 1 (two wide): tt over ts; by 2: ss over ts; by 3: ts over ss
            String want = new String[] {"tstt", "ttts", "ssts", "tsss"}[turns];
            for (int k = 0; k < 4; k++) {
                DUE.is("turned " + turns + " square " + k, x.square(0, k % 2, k / 2, 0), want.charAt(k) == 't' ? 1 : 0);
            }
        }
        TinStencils all = Due.with("plate 3 2;shape a" + " tttttttt".repeat(8) + ";put a 2 1;put a 0 0 turned 1;");
        DUE.is("nothing stays", all.sheet(0, 9), 0);
        TinStencils edge = Due.with("plate 3 2;shape a" + " tttttttt".repeat(8) + ";put a 1 1 turned 2;");
        DUE.is("its upper left alone is in the sheet", edge.sheet(0, 9), 4);
    }

    private static void at(String marked) {
        Marks.at(DUE, marked);
    }

    private static void faults() {
        String[] texts = {"^", "   ^", "^x", "^plates 1 1;", "^Plate 1 1;", "^;", "plate^", "plate ^;", "plate ^0 1;", "plate ^21 1;",
            "plate 1 ^0;", "plate 1 ^21;", "plate ^00001 1;", "plate 1^", "plate 1 1^", "plate 1 1 ^1;", "plate 1 1  ^",
            "plate 1 1;", "plate 1 1;  \n ", "plate 1 1;^;", "plate 1 1; ^#", "plate 1 1;^\tbrush 1;", "plate 1 1;^\rbrush 1;",
            "plate 1 1;^plate 1 1;", "plate 1 1;^rows 0 s;", "plate 1 1;^1;", "plate 1 1;^,", "plate 1 1;row^", "plate 1 1;row ^s;",
            "plate 5 5;row ^5 s;", "plate 5 5;row ^-1 s;", "plate 5 5;row 4^", "plate 5 5;row 4 ^;", "plate 5 5;row 4 ^stx;",
            "plate 5 5;row 4 ^ststst;", "plate 5 5;row 4 ststs^", "plate 5 5;row 4 s ^s;", "plate 5 5;row 4 ststs;",
            "plate 5 5;shape^", "plate 5 5;shape ^;", "plate 5 5;shape ^1;", "plate 5 5;shape ^row s;", "plate 5 5;shape ^hidden s;",
            "plate 5 5;shape ^north s;", "plate 5 5;shape ^to s;", "plate 5 5;shape ^abcdefghi s;", "plate 5 5;shape abcdefgh s;",
            "plate 5 5;shape a^", "plate 5 5;shape a ^;", "plate 5 5;shape a ^b;", "plate 5 5;shape a ststst;",
            "plate 1 1;shape a tt;", "plate 1 1;shape a stststst;", "plate 1 1;shape a ^ststststs;", "plate 1 1;shape a tt ^t;",
            "plate 1 1;shape a tt tt tt tt tt tt tt tt;", "plate 1 1;shape a tt tt tt tt tt tt tt tt ^tt;", "plate 1 1;row 0 ^tt;",
            "plate 9 5;shape a ^ststststs;", "plate 8 5;shape a stststst;", "plate 5 5;shape a st ^s;", "plate 5 5;shape a st ^stt;",
            "plate 5 5;shape a st ^row;", "plate 5 5;shape a st ^1;", "plate 5 5;shape a st^", "plate 5 5;shape a s;shape ^a s;",
            "plate 5 5;shape st st;put st 0 0;", "plate 5 5;shape a s s s s s s s s;", "plate 5 5;shape a s s s s s s s s ^s;",
            "plate 5 5;put ^a 0 0;", "plate 5 5;shape a s;put ^b 0 0;", "plate 5 5;put ^;", "plate 5 5;put ^put 0 0;",
            "plate 5 5;shape a s;put a ^5 0;", "plate 5 5;shape a s;put a 4 ^5;", "plate 5 5;shape a s;put a 4 4^",
            "plate 5 5;shape a s;put a 4 4 ^turn 1;", "plate 5 5;shape a s;put a 4 4 turned ^4;",
            "plate 5 5;shape a s;put a 4 4 turned ^;", "plate 5 5;shape a s;put a 4 4 turned 3;",
            "plate 5 5;shape a s;put a 4 4 turned 3 ^turned 3;", "plate 5 5;hold ^;", "plate 5 5;hold ^up;", "plate 5 5;hold^",
            "plate 5 5;hold north north east ^held;", "plate 5 5;hold north north east;", "plate 5 5;hold north ^1;",
            "plate 5 5;worth 0 0 ^0 0 1;", "plate 5 5;worth 2 2 to ^1 2 1;", "plate 5 5;worth 2 2 to 2 ^1 1;",
            "plate 5 5;worth 2 2 to ^5 2 1;", "plate 5 5;worth 2 2 to 2 ^5 1;", "plate 5 5;worth 2 2 to 2 2 ^100;",
            "plate 5 5;worth ^5 2 to 5 2 1;", "plate 5 5;worth 2 ^5 to 2 5 1;", "plate 5 5;worth 2 2 to 2 2 99;",
            "plate 5 5;worth 2 2 to 2 2 ^;", "plate 5 5;brush ^401;", "plate 5 5;brush 400;", "plate 5 5;brush ^s;",
            "plate 5 5;wear ^1000;", "plate 5 5;wear 999;", "plate 5 5;wear ^00000;", "plate 5 5;wear 0000;",
            "plate 5 5;bridge ^;", "plate 5 5;bridge ^bent 1 1 north 1;", "plate 5 5;bridge^",
            "plate 5 5;bridge straight ^5 0 north 1;", "plate 5 5;bridge straight 0 ^5 north 1;",
            "plate 5 5;bridge straight 0 0 ^1 north;", "plate 5 5;bridge straight 0 0 north ^0;",
            "plate 5 5;bridge straight 0 0 north ^21;", "plate 5 5;bridge straight 0 0 north 20;",
            "plate 5 5;bridge straight 0 0 north 20 ^20;", "plate 5 5;bridge straight 0 0 north 1 hidden ^hidden;",
            "plate 5 5;bridge broad 0 0 north 1 ^;", "plate 5 5;bridge broad 0 0 north 1 ^1;",
            "plate 5 5;bridge broad 0 0 north 1 ^5;", "plate 5 5;bridge broad 0 0 north 1 2;",
            "plate 5 5;bridge broad 0 0 north 1 4 hidden;", "plate 5 5;bridge broad 0 0 north ^21 4;",
            "plate 5 5;bridge corner 0 0 north 1 ^;", "plate 5 5;bridge corner 0 0 north 1 north ^0;",
            "plate 5 5;bridge corner 0 0 north 1 south 20 hidden;", "plate 5 5;bridge corner 0 0 north 1 ^hidden;",
            "plate 5 5;bridge told ^;", "plate 5 5;bridge told 0 0 ^1 1;", "plate 5 5;bridge told 0 0,^;",
            "plate 5 5;bridge told 0 0,^5 0;", "plate 5 5;bridge told 0 0,0 ^5;", "plate 5 5;bridge told 0 0,0 0^",
            "plate 5 5;bridge told 0 0,1 0,2 0,3 0,4 0,0 1,1 1,2 1;",
            "plate 5 5;bridge told 0 0,1 0,2 0,3 0,4 0,0 1,1 1,2 1^,3 1;", "plate 5 5;bridge told 0 0 hidden^, 1 1;",
            "plate 5 5;bridge told 0 0 , 1 1 hidden;", "plate 5 5;brush 1 ^brush 2;", "plate 5 5;brush 1^", "plate 5 5;brush 1 ^,",
            "plate 5 5;brush 1^\u0080;", "plate 5 5;brush 1^\u0000;", "plate 5 5;brush 1^\u00ff;"};
        for (String text : texts) {
            at(text);
        }
    }

    private static void limits() {
        String sixty = "plate 1 1;" + "wear 1;".repeat(60);
        at(sixty);
        at(sixty + "  \n");
        at(sixty + " ^wear 1;");
        at(sixty + "^;");
        at(sixty + " ^#");
        at("plate 1 1;" + "wear 1;".repeat(59) + "wear ^x;");
        StringBuilder eight = new StringBuilder("plate 5 5;");
        for (char c = 'a'; c < 'i'; c++) {
            eight.append("shape " + c + " s;");
        }
        at(eight.toString());
        at(eight + "shape ^i s;");
        at(eight + "shape ^a s;");
        at(eight + "shape^");
        String twelve = "plate 5 5;" + "bridge told 0 0;".repeat(12);
        at(twelve);
        at(twelve + "^bridge told 0 0;");
        at(twelve + "brush 1; ^bridge");
    }

    private static void names() {
        String[] words = {"plate", "row", "shape", "put", "turned", "hold", "worth", "to", "brush", "wear", "bridge", "straight",
            "broad", "corner", "told", "hidden", "north", "east", "south", "west"};
        for (String word : words) {
            at("plate 5 5;shape ^" + word + " s;");
            at("plate 5 5;shape a s;put ^" + word + " 0 0;");
            if (word.length() < 8) {
                at("plate 5 5;shape " + word + "x s;put " + word + "x 0 0;");
            }
            at("plate 5 5;shape " + word.substring(1) + " s;put " + word.substring(1) + " 0 0;");
        }
        at("plate 5 5;shape zzzzzzzz s;shape zzzzzzzy s;put zzzzzzzy 0 0;put ^zzzzzzzx 0 0;");
        at("plate 5 5;shape az s;shape ba s;shape ^az s;");
    }

    /** Random whole texts, cut short or with one token made wrong. */
    private static void brokenTexts() {
        Random random = new Random(5);
        for (int seed = 0; seed < 300; seed++) {
            Maker maker = new Maker(seed);
            maker.make(8, 1 + random.nextInt(12), 12);
            String text = maker.text();
            int[] places = maker.places(text);
            for (int n = 0; n < 12; n++) {
                int k = random.nextInt(places.length);
                String token = maker.tokens.get(k);
                int end = places[k] + token.length();
                boolean whole = token.equals(";");
                expect(text.substring(0, end), whole ? -1 : end);
                expect(text.substring(0, places[k]) + "#" + text.substring(end), places[k]);
                expect(text.substring(0, end) + " 12345 " + text.substring(end), end + 1);
                expect(text.substring(0, end) + " abcdefghij " + text.substring(end), end + 1);
                if (!token.equals(",")) {
                    expect(text.substring(0, places[k]) + " ,;" + text.substring(end), commaPlace(maker, k, places[k] + 1));
                }
            }
        }
    }

    /** Statements cut short by a semicolon at each of their tokens. */
    private static void shortStatements() {
        String[] statements = {"row! 3! stt", "shape! b! st+ ss+ tt", "put! a! 1! 2+ turned! 3", "hold! north+ south", "worth! 1! 2! to! 3! 4! 50",
            "brush! 5", "wear! 6", "bridge! straight! 1! 2! east! 3+ hidden", "bridge! broad! 1! 2! east! 3! 2+ hidden",
            "bridge! corner! 1! 2! east! 3! south! 2+ hidden", "bridge! told! 1! 2+ ,! 3! 4+ hidden"};
        for (String marked : statements) {
            String[] tokens = marked.split(" ");
            StringBuilder text = new StringBuilder("plate 5 5;shape a s;");
            for (String token : tokens) {
                boolean open = token.endsWith("!");
                text.append(" ").append(token.replace("!", "").replace("+", ""));
                expect(text + ";", open ? text.length() : -1);
                expect(text.toString(), text.length());
                expect(text + " ;", open ? text.length() + 1 : -1);
            }
        }
    }

    /** A comma goes on only behind a place of "told", and then a number must come. */
    private static int commaPlace(Maker maker, int k, int place) {
        int from = k;
        while (from > 0 && !maker.tokens.get(from - 1).equals(";")) {
            from--;
        }
        int told = k - from - 2;
        boolean inTold = k - from >= 4 && maker.tokens.get(from + 1).equals("told") && !maker.tokens.get(k - 1).equals("hidden");
        boolean behindPlace = inTold && told % 3 == 2;
        boolean room = (told + 1) / 3 < 8;
        return behindPlace && room ? place + 1 : place;
    }

    private static void expect(String text, int place) {
        if (text.length() > 1200) {
            return;
        }
        TinStencils x = new TinStencils();
        int answer = Due.tell(x, 0, text);
        DUE.is("<" + text + "> answered fault", answer == -1, place >= 0);
        DUE.is("fault of <" + text + ">", x.fault(), place);
    }
}
