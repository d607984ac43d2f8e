/** Each sentence on the TAPE, the TOKENS, the FJORD, E and the FAULTS that names a boundary, on both sides of it. */
public final class LanguageBoundsTest {
    private static final int NONE = IceBridge.NONE;
    private static final String HEAD = "fjord 4 2;";

    private LanguageBoundsTest() {
    }

    public static void main(String[] args) {
        tape();
        tokens();
        lines();
        names();
        expressions();
        faults();
        Due.end();
    }

    private static void is(String call, int want, int got) {
        Due.is(call, want, got);
    }

    private static void good(String text) {
        Due.good(text);
    }

    private static void fault(int kind, int place, String text) {
        Due.fault(kind, place, text);
    }

    private static void faultAt(int kind, String text) {
        Due.faultAt(kind, text);
    }

    /** GRIP at HOUR 0 by an E of frost. */
    private static void frostIs(int want, String e) {
        is("frost " + e, want, Due.fjord("fjord 2 1;frost " + e + ";").cell(0, 0, 3));
    }

    // ---- the TAPE, promise 2

    private static void tape() {
        tapeHoldsThousand();
        theThousandthSignCounts();
        theFirstOfWhatIsFedStay();
        signsThatAreTaken();
        signsInEachByte();
        highestFirst();
        noGapIsLeft();
        readingTakesIt();
    }

    /** The TAPE has at most 1,000 signs; what is beyond 1,000 is left out. */
    private static void tapeHoldsThousand() {
        IceBridge x = new IceBridge();
        is("nothing fed", 0, x.count(12));
        is("999 signs", 999, Due.feed(x, " ".repeat(999)));
        is("the 1,000th", 1000, Due.feed(x, " "));
        is("no 1,001st", 1000, Due.feed(x, ";"));
        is("nor 24 more", 1000, Due.feed(x, ";".repeat(24)));
        is("1,000 in all", 1000, x.count(12));
        is("the end is at 1,000", 1 + 16 * 1000, x.fjord());
    }

    private static void theThousandthSignCounts() {
        good("fjord 2 1;" + " ".repeat(983) + "mild 7;");
        fault(1, 1000, "fjord 2 1;" + " ".repeat(984) + "mild 7;");
        fault(1, 999, "fjord 2 1;" + " ".repeat(982) + "mild 07");
        fault(1, 999, "fjord 2 1;" + " ".repeat(989) + "x;");
        good("fjord 2 1;" + " ".repeat(990) + "x;");
    }

    /** Up to 24 signs come behind the TAPE: of those that it has no more room for none, of the others each. */
    private static void theFirstOfWhatIsFedStay() {
        IceBridge x = new IceBridge();
        Due.feed(x, "fjord 2 1;" + " ".repeat(980));
        is("ten of 24", 1000, Due.feed(x, "mild   07;############!!"));
        is("the first ten", 0, x.fjord());
        is("are read", 7, x.count(11));
        Due.feed(x, " ".repeat(976));
        is("24 of 24", 1000, Due.feed(x, "#".repeat(24)));
        is("the first of them", 1 + 16 * 976, x.fjord());
    }

    /** Others than 10 and 32 .. 126 are left out. */
    private static void signsThatAreTaken() {
        for (int sign = 0; sign < 256; sign++) {
            int taken = sign == 10 || sign >= 32 && sign <= 126 ? 1 : 0;
            is("sign " + sign, taken, new IceBridge().feed(sign, 0, 0));
        }
        is("all bytes 255", 0, new IceBridge().feed(-1, -1, -1));
        is("all bytes 128", 0, new IceBridge().feed(0x8080808080808080L, 0x8080808080808080L, 0x8080808080808080L));
        is("all bytes 127", 0, new IceBridge().feed(0x7F7F7F7F7F7F7F7FL, 0x7F7F7F7F7F7F7F7FL, 0x7F7F7F7F7F7F7F7FL));
        is("all bytes 126", 24, new IceBridge().feed(0x7E7E7E7E7E7E7E7EL, 0x7E7E7E7E7E7E7E7EL, 0x7E7E7E7E7E7E7E7EL));
    }

    private static void signsInEachByte() {
        for (int i = 0; i < 24; i++) {
            for (int sign : new int[] {9, 10, 11, 13, 31, 32, 126, 127, 128, 255}) {
                long[] abc = new long[3];
                abc[i / 8] = (long) sign << 56 - 8 * (i % 8);
                int taken = sign == 10 || sign == 32 || sign == 126 ? 1 : 0;
                is("byte " + i + " is " + sign, taken, new IceBridge().feed(abc[0], abc[1], abc[2]));
            }
        }
    }

    /** The bytes of a, b, c, of each the highest first. */
    private static void highestFirst() {
        String text = "fjord 9 5;mild 4;melt 9;";
        long a = Due.pack(text, 0);
        long b = Due.pack(text, 8);
        long c = Due.pack(text, 16);
        IceBridge x = new IceBridge();
        is("24 of 24", 24, x.feed(a, b, c));
        is("in their order", 0, x.fjord());
        is("columns", 9, x.count(0));
        x.feed(a, c, b);
        Due.is("b ahead of c", true, x.fjord() != 0);
        x.feed(b, a, c);
        is("a ahead of b", 1, x.fjord());
        x.feed(Long.reverseBytes(a), b, c);
        is("the highest first: _9_drojf", 1 + 16 * 1, x.fjord());
    }

    private static void noGapIsLeft() {
        IceBridge x = new IceBridge();
        is("ten signs", 10, x.feed(0x666A006F72006400L, 0x0100203400203200L, 0x7F8000000000003BL));
        is("side by side", 0, x.fjord());
        is("columns", 4, x.count(0));
        is("rows", 2, x.count(1));
    }

    /** What reads the TAPE takes it: it is empty then, with a FAULT or without. */
    private static void readingTakesIt() {
        IceBridge x = new IceBridge();
        is("empty: the end at 0", 1, x.fjord());
        is("read", 0, Due.read(x, HEAD));
        is("taken", 0, x.count(12));
        is("nothing is read again", 1, x.fjord());
        is("a fault", 4 + 16 * 6, Due.read(x, "fjord 1 1;"));
        is("taken, too", 0, x.count(12));
        is("the next begins at place 0", 1, Due.read(x, "x"));
        Due.feed(x, "fjo");
        Due.feed(x, "rd 3 3");
        is("put together", 10, Due.feed(x, ";"));
        is("read", 0, x.fjord());
        is("columns", 3, x.count(0));
    }

    // ---- TOKENS

    private static void tokens() {
        blanks();
        wordsOfEight();
        lettersOfWords();
        numbersOfFour();
        digitsOfNumbers();
        asLongAsCanBe();
        allElseIsNone();
    }

    /** Blanks (10, 32) between TOKENS where one likes. */
    private static void blanks() {
        good("fjord4 2;rock0 0;mild3;");
        good("\n \n fjord \n 4\n2\n;\n rock\n0\n0\n;\n");
        good("fjord 4 2;frost(1)and(1)or not(0);");
        faultAt(1, "@fj ord 4 2;");
        faultAt(1, "@fj\nord 4 2;");
        faultAt(4, "fjord @1 0 6;");
        good("fjord 10 6;");
        faultAt(1, "fjord 4 2;rock 0 0@");
        faultAt(1, "fjord 4 2;rock 0 0 \n@");
    }

    /** WORDS have 8 letters at most; a longer one is none at its first sign. */
    private static void wordsOfEight() {
        good(HEAD + "load abcdefgh foot heavy 1 worth 1;");
        faultAt(1, HEAD + "load @abcdefghi foot heavy 1 worth 1;");
        faultAt(1, HEAD + "load @abcdefgh" + "i".repeat(100) + " foot heavy 1 worth 1;");
        good(HEAD + "load abcdefgh foot heavy 1 worth 1;load abcdefgi foot heavy 1 worth 1;load abcdefg foot heavy 1 worth 1;");
        faultAt(3, HEAD + "load abcdefgh foot heavy 1 worth 1;load @abcdefgh foot heavy 1 worth 1;");
        faultAt(1, HEAD + "@rockrockr 0 0;");
        faultAt(1, HEAD + "@rockrock 0 0;");
        faultAt(1, "@fjordfjord 4 2;");
        good(HEAD + "load a foot heavy 1 worth 1;load z foot heavy 1 worth 1;load aa foot heavy 1 worth 1;");
    }

    /** Letters are a .. z alone. */
    private static void lettersOfWords() {
        good(HEAD + "load azzaz foot heavy 1 worth 1;");
        for (char other : "`{AZ[_.'\"!~".toCharArray()) {
            faultAt(1, HEAD + "load @" + other + " foot heavy 1 worth 1;");
            faultAt(1, HEAD + "load a@" + other + " foot heavy 1 worth 1;");
        }
    }

    /** NUMBERS have 1 to 4 digits; a longer one is none at its first sign. */
    private static void numbersOfFour() {
        good("fjord 0004 02;mild 007;");
        faultAt(1, "fjord @00004 2;");
        faultAt(1, "fjord 4 @00002;");
        good(HEAD + "frost 9999;");
        faultAt(1, HEAD + "frost @10000;");
        faultAt(1, HEAD + "frost @" + "1".repeat(200) + ";");
        good(HEAD + "frost 0000;");
        faultAt(1, HEAD + "mild @00000;");
    }

    /** A letter may stand right behind a NUMBER, and a NUMBER behind a WORD. */
    private static void digitsOfNumbers() {
        frostIs(1, "5and9999");
        frostIs(1, "0or1");
        good(HEAD + "current 1at 2 1;");
        good(HEAD + "current 1at2 1;");
        faultAt(1, HEAD + "rock 0 0@x;");
        faultAt(1, HEAD + "load a@1 foot heavy 1 worth 1;");
        for (char other : "/:".toCharArray()) {
            faultAt(1, HEAD + "frost @" + other + ";");
            faultAt(1, HEAD + "frost 0@" + other + ";");
            faultAt(1, HEAD + "frost 9@" + other + ";");
        }
    }

    /** Each is as long as can be. */
    private static void asLongAsCanBe() {
        faultAt(1, "@fjordx 4 2;");
        faultAt(1, HEAD + "@rocks 0 0;");
        faultAt(1, HEAD + "frost @nothour;");
        faultAt(1, HEAD + "frost @not1hour;".replace("@not1", "not1@"));
        faultAt(4, HEAD + "mild @11;");
        good(HEAD + "mild 10;");
    }

    /** All else than WORDS, NUMBERS and the signs ( ) less = + - * ; is none. */
    private static void allElseIsNone() {
        frostIs(7, "(1<2)+(3=3)*9-(4-1)");
        for (char sign = 33; sign < 127; sign++) {
            boolean known = sign >= 'a' && sign <= 'z' || sign >= '0' && sign <= '9' || "()<=+-*;".indexOf(sign) >= 0;
            if (!known) {
                fault(1, 10, HEAD + sign + "rock 0 0;");
                fault(1, 17, HEAD + "frost 1" + sign + "1;");
                fault(1, 16, HEAD + "frost " + sign + "1;");
                fault(1, 0, sign + HEAD);
            }
        }
    }

    // ---- the lines of a FJORD, promise 3

    private static void lines() {
        cellsFromShoreToShore();
        rows();
        anyNumberOfLines();
        cellsOfLines();
        cellsOnce();
        currents();
        pourers();
        pailsOfPourers();
        loads();
        heavyAndWorth();
        onceEach();
        mild();
        atFirst();
    }

    private static void columnsAre(int columns) {
        IceBridge x = Due.fjord("fjord " + columns + " 1;");
        is("columns", columns, x.count(0));
        is("the last column", 0, x.cell(columns - 1, 0, 0));
        is("beyond", NONE, x.cell(columns, 0, 0));
    }

    /** CELLS from shore to shore, 2 to 10. */
    private static void cellsFromShoreToShore() {
        faultAt(4, "fjord @0 1;");
        faultAt(4, "fjord @1 1;");
        columnsAre(2);
        columnsAre(10);
        faultAt(4, "fjord @11 1;");
        faultAt(4, "fjord @9999 1;");
    }

    private static void rowsAre(int rows) {
        IceBridge x = Due.fjord("fjord 2 " + rows + ";");
        is("rows", rows, x.count(1));
        is("the last row", 0, x.cell(0, rows - 1, 0));
        is("beyond", NONE, x.cell(0, rows, 0));
    }

    /** Rows, 1 to 6. */
    private static void rows() {
        faultAt(4, "fjord 2 @0;");
        rowsAre(1);
        rowsAre(6);
        faultAt(4, "fjord 2 @7;");
        faultAt(4, "fjord 2 @9999;");
    }

    /** First fjord, then any number of lines: none, or as many as the TAPE has room for. */
    private static void anyNumberOfLines() {
        good("fjord 10 6;");
        StringBuilder text = new StringBuilder("fjord 10 6;");
        for (int i = 0; i < 60; i++) {
            text.append(i % 2 == 0 ? "rock" : "salt").append(i % 10).append(' ').append(i / 10).append(';');
        }
        good(text.toString());
        IceBridge x = Due.fjord(text.toString());
        for (int i = 0; i < 60; i++) {
            is("ground " + i, 1 + i % 2, x.cell(i % 10, i / 10, 1));
        }
        faultAt(1, "@rock 0 0;fjord 4 2;");
        faultAt(1, "fjord 4 2;@fjord 4 2;");
        faultAt(1, "fjord 4 2;rock 0 0;@fjord 4 2;");
        faultAt(1, "fjord 4 2;@;");
        faultAt(1, "fjord 4 2;rock 0 0;@;rock 1 0;");
        faultAt(1, "fjord 4 2;@7;");
        faultAt(1, "fjord 4 2;@(rock 0 0);");
    }

    /** rock, salt, current: a CELL (column from the west, row; from 0). */
    private static void cellsOfLines() {
        for (String line : new String[] {"rock", "salt", "current 1 at"}) {
            for (String cell : "0 0,9 0,0 5,9 5".split(",")) {
                good("fjord 10 6;" + line + " " + cell + ";");
            }
            faultAt(4, "fjord 10 6;" + line + " @10 0;");
            faultAt(4, "fjord 10 6;" + line + " 0 @6;");
            faultAt(4, "fjord 10 6;" + line + " @10 6;");
            good("fjord 2 1;" + line + " 1 0;");
            faultAt(4, "fjord 2 1;" + line + " @2 0;");
            faultAt(4, "fjord 2 1;" + line + " 1 @1;");
            faultAt(1, "fjord 2 1;" + line + " 1@;");
            faultAt(1, "fjord 2 1;" + line + " 1 0@ 0;".replace("@ ", " @"));
        }
        IceBridge x = Due.fjord("fjord 4 2;rock 3 0;salt 0 1;current 7 at 2 1;");
        is("the column first", 1, x.cell(3, 0, 1));
        is("the row then", 2, x.cell(0, 1, 1));
        is("of a current, too", 7, x.cell(2, 1, 2));
    }

    /** A CELL is told by one of rock and salt, once; a current once: else the row of a CELL told already so. */
    private static void cellsOnce() {
        String[] grounds = {"rock", "salt"};
        for (String one : grounds) {
            for (String other : grounds) {
                faultAt(3, HEAD + one + " 3 1;" + other + " 3 @1;");
                faultAt(3, HEAD + one + " 0 0;" + other + " 0 @0;");
                faultAt(3, HEAD + one + " 3 1;mild 1;" + other + " 3 @01;");
                good(HEAD + one + " 3 1;" + other + " 3 0;" + other + " 2 1;");
            }
            good(HEAD + one + " 3 1;current 1 at 3 1;");
            good(HEAD + "current 1 at 3 1;" + one + " 3 1;");
        }
        faultAt(3, HEAD + "current 1 at 3 1;current 1 at 3 @1;");
        faultAt(3, HEAD + "current 1 at 0 0;current 9 at 0 @0;");
        good(HEAD + "current 1 at 3 1;current 1 at 3 0;current 1 at 2 1;");
        faultAt(4, HEAD + "rock 3 1;rock @4 1;");
        faultAt(4, HEAD + "rock 3 1;rock 3 @2;");
    }

    /** current: 1 to 9. */
    private static void currents() {
        faultAt(4, HEAD + "current @0 at 1 1;");
        is("1", 1, Due.fjord(HEAD + "current 1 at 1 1;").cell(1, 1, 2));
        is("9", 9, Due.fjord(HEAD + "current 9 at 1 1;").cell(1, 1, 2));
        is("none is told", 0, Due.fjord(HEAD + "current 9 at 1 1;").cell(1, 0, 2));
        faultAt(4, HEAD + "current @10 at 1 1;");
    }

    private static String pourers(int many) {
        StringBuilder text = new StringBuilder(HEAD);
        for (int i = 0; i < many; i++) {
            text.append("pourer p").append((char) ('a' + i)).append(i % 2 == 0 ? " west " : " east ")
                .append(new String[] {"plain", "lover", "child", "smith"}[i % 4]).append(" pails ").append(i * 10).append(';');
        }
        return text.toString();
    }

    /** POURERS: 6 at most, numbered as told; the word pourer of a seventh is one too many. */
    private static void pourers() {
        for (int many = 0; many <= 6; many++) {
            IceBridge x = Due.fjord(pourers(many));
            is("pourers", many, x.count(2));
            for (int i = 0; i < many; i++) {
                is("side of " + i, i % 2, x.pourer(i, 0));
                is("kind of " + i, i % 4, x.pourer(i, 1));
                is("pails of " + i, i * 10, x.pourer(i, 2));
            }
            is("beyond", NONE, x.pourer(many, 0));
        }
        faultAt(5, pourers(6) + "@pourer pg west plain pails 1;");
        faultAt(5, pourers(6) + "@pourer");
        faultAt(5, pourers(6) + "rock 0 0;@pourer pa west plain pails 1;");
        good(pourers(6) + "load la foot heavy 1 worth 1;");
        faultAt(1, HEAD + "pourer a @north plain pails 1;");
        faultAt(1, HEAD + "pourer a west @horse pails 1;");
        faultAt(1, HEAD + "pourer a west plain @1;");
        faultAt(1, HEAD + "pourer a west @pails 1;");
        faultAt(1, HEAD + "pourer a @pails 1;");
        faultAt(1, HEAD + "pourer a @plain pails 1;");
        faultAt(1, HEAD + "pourer @west plain pails 1;");
        faultAt(1, HEAD + "pourer a west @west plain pails 1;");
        faultAt(1, HEAD + "pourer a west plain @plain pails 1;");
    }

    /** 0 to 99 pails a night. */
    private static void pailsOfPourers() {
        is("0", 0, Due.fjord(HEAD + "pourer a west plain pails 0;").pourer(0, 2));
        is("99", 99, Due.fjord(HEAD + "pourer a west plain pails 99;").pourer(0, 2));
        faultAt(4, HEAD + "pourer a west plain pails @100;");
        faultAt(1, HEAD + "pourer a west plain pails @-1;");
    }

    private static String loads(int many) {
        StringBuilder text = new StringBuilder(HEAD);
        for (int i = 0; i < many; i++) {
            text.append("load l").append((char) ('a' + i)).append(' ')
                .append(new String[] {"foot", "horse", "sledge", "hearse", "dance"}[i % 5]).append(" heavy 9 worth ")
                .append(i * 10).append(';');
        }
        return text.toString();
    }

    /** LOADS: 7 at most, numbered as told; the word load of an eighth is one too many. */
    private static void loads() {
        for (int many = 0; many <= 7; many++) {
            IceBridge x = Due.fjord(loads(many));
            is("loads", many, x.count(3));
            for (int i = 0; i < many; i++) {
                is("kind of " + i, i % 5, x.load(i, 0));
                is("worth of " + i, i * 10, x.load(i, 2));
            }
            is("beyond", NONE, x.load(many, 0));
        }
        faultAt(5, loads(7) + "@load lh foot heavy 1 worth 1;");
        faultAt(5, loads(7) + "@load");
        faultAt(5, loads(7) + "mild 1;@load la foot heavy 1 worth 1;");
        good(loads(7) + "pourer pa west plain pails 1;");
        faultAt(1, HEAD + "load a @smith heavy 1 worth 1;");
        faultAt(1, HEAD + "load a foot @1 worth 1;");
        faultAt(1, HEAD + "load a foot heavy 1 @1;");
        faultAt(1, HEAD + "load a @heavy 1 worth 1;");
        faultAt(1, HEAD + "load @foot heavy 1 worth 1;");
        faultAt(1, HEAD + "load a foot @worth 1 heavy 1;");
        faultAt(1, HEAD + "load a foot heavy @worth 1;");
        faultAt(1, HEAD + "load a foot heavy 1 worth @;");
    }

    /** heavy 1 to 50; worth 0 to 99. */
    private static void heavyAndWorth() {
        faultAt(4, HEAD + "load a foot heavy @0 worth 1;");
        is("heavy 1", 1, Due.fjord(HEAD + "load a foot heavy 1 worth 0;").load(0, 1));
        is("heavy 50", 50, Due.fjord(HEAD + "load a foot heavy 50 worth 0;").load(0, 1));
        faultAt(4, HEAD + "load a foot heavy @51 worth 1;");
        faultAt(4, HEAD + "load a sledge heavy @51 worth 1;");
        is("worth 0", 0, Due.fjord(HEAD + "load a foot heavy 1 worth 0;").load(0, 2));
        is("worth 99", 99, Due.fjord(HEAD + "load a foot heavy 1 worth 99;").load(0, 2));
        faultAt(4, HEAD + "load a foot heavy 1 worth @100;");
    }

    /** frost, melt, sound, first, mild: once each; the words a second time are told already. */
    private static void onceEach() {
        String[] words = {"frost", "melt", "sound", "first", "mild"};
        for (String one : words) {
            for (String other : words) {
                faultAt(one.equals(other) ? 3 : 0, HEAD + one + " 1;rock 0 0;@" + other + " 1;");
            }
        }
        good(HEAD + "first 1;sound 1;mild 1;melt 1;frost 1;");
    }

    /** mild: 0 to 10; 0 if it is not told. */
    private static void mild() {
        is("not told", 0, Due.fjord(HEAD).count(11));
        is("0", 0, Due.fjord(HEAD + "mild 0;").count(11));
        is("10", 10, Due.fjord(HEAD + "mild 10;").count(11));
        faultAt(4, HEAD + "mild @11;");
        faultAt(1, HEAD + "mild @-1;");
        faultAt(1, HEAD + "mild 1@+1;");
    }

    /** At first: fjord 2 1, nothing else. */
    private static void atFirst() {
        IceBridge x = new IceBridge();
        is("columns", 2, x.count(0));
        is("rows", 1, x.count(1));
        for (int what = 2; what <= 12; what++) {
            is("nothing else: " + what, 0, x.count(what));
        }
        for (int column = 0; column < 2; column++) {
            for (int what = 0; what < 3; what++) {
                is("cell " + column + ", what " + what, 0, x.cell(column, 0, what));
            }
            is("grip", 2, x.cell(column, 0, 3));
        }
        is("no column 2", NONE, x.cell(2, 0, 0));
        is("no row 1", NONE, x.cell(0, 1, 0));
        is("no pourer", NONE, x.pourer(0, 0));
        is("no load", NONE, x.load(0, 0));
        is("no stump", NONE, x.fits(0, 0, 0, 12, 0));
        Due.no("no undo", x.undo());
        for (int mark = 0; mark < 4; mark++) {
            Due.no("nothing on mark " + mark, x.mark(mark, true));
        }
    }

    // ---- NAMES

    private static void names() {
        String reserved = "fjord rock salt current at pourer pails load heavy worth frost melt sound first mild west east plain "
            + "lover child smith foot horse sledge hearse dance not and or";
        for (String name : reserved.split(" ")) {
            faultAt(1, HEAD + "pourer @" + name + " west plain pails 1;");
            faultAt(1, HEAD + "load @" + name + " foot heavy 1 worth 1;");
            good(HEAD + "pourer " + name + "x west plain pails 1;");
            good(HEAD + "load x" + name + " foot heavy 1 worth 1;");
        }
        for (String name : "hour night column row thick wear side kind name none no roc rocky".split(" ")) {
            good(HEAD + "pourer " + name + " west plain pails 1;");
            good(HEAD + "load " + name + " foot heavy 1 worth 1;");
        }
        faultAt(1, HEAD + "pourer @1 west plain pails 1;");
        faultAt(1, HEAD + "pourer @; west plain pails 1;");
        noTwoAreAlike();
    }

    /** No two NAMES (POURERS, LOADS) are alike; a NAME told already is a FAULT at it. */
    private static void noTwoAreAlike() {
        faultAt(3, HEAD + "pourer ab west plain pails 1;pourer @ab east smith pails 2;");
        good(HEAD + "pourer ab west plain pails 1;pourer ba west plain pails 1;pourer a west plain pails 1;");
        faultAt(3, HEAD + "load ab foot heavy 1 worth 1;load @ab dance heavy 2 worth 2;");
        good(HEAD + "load ab foot heavy 1 worth 1;load ba foot heavy 1 worth 1;load abb foot heavy 1 worth 1;");
        faultAt(3, HEAD + "pourer ab west plain pails 1;load @ab foot heavy 1 worth 1;");
        faultAt(3, HEAD + "load ab foot heavy 1 worth 1;pourer @ab west plain pails 1;");
        for (char last = 'a'; last <= 'f'; last++) {
            faultAt(3, pourers(6) + "load @p" + last + " foot heavy 1 worth 1;");
        }
        for (char last = 'a'; last <= 'g'; last++) {
            faultAt(3, loads(7) + "pourer @l" + last + " west plain pails 1;");
        }
        IceBridge x = Due.fjord(pourers(6));
        is("another fjord may tell them again", 0, Due.read(x, pourers(6)));
    }

    // ---- E

    private static void expressions() {
        fromTheLeft();
        oneComparison();
        partsWanted();
        withinFive();
        factsOfFrostAndMelt();
        factsOfSound();
        factsOfFirst();
        currentWhereNoneIsTold();
        oneOrNothing();
        intsWrap();
        withoutLaws();
    }

    /** TEST { and TEST or or TEST }, from the left; SUMS and PRODUCTS so, too. */
    private static void fromTheLeft() {
        frostIs(0, "1 or 0 and 0");
        frostIs(1, "0 and 0 or 1");
        frostIs(1, "0 and 1 or 1");
        frostIs(1, "1 and 0 or 1");
        frostIs(0, "1 or 1 and 0");
        frostIs(0, "1 and 1 or 1 and 0");
        frostIs(2, "9-4-3");
        frostIs(8, "9-4+3");
        frostIs(7, "1+2*3");
        frostIs(5, "2*3-1");
        frostIs(9, "(1+2)*3");
        frostIs(1, "1+1=2");
        frostIs(1, "3<2*2");
        frostIs(0, "4<2*2");
        frostIs(1, "1=1 and 2=2");
        frostIs(3, "not 0+2");
        frostIs(0, "not (0+2)");
        frostIs(8, "not 0*8");
        frostIs(1, "not 1=0");
        frostIs(1, "not 0 and 1");
        frostIs(0, "0 and not 0 or 0");
    }

    /** A TEST is a SUM, or two of them with one sign between; a third can't stand there. */
    private static void oneComparison() {
        frostIs(1, "1<2");
        frostIs(1, "2=2");
        for (String signs : "<< <= =< ==".split(" ")) {
            faultAt(1, HEAD + "frost 1" + signs.charAt(0) + "2@" + signs.charAt(1) + "3;");
            good(HEAD + "frost (1" + signs.charAt(0) + "2)" + signs.charAt(1) + "3;");
            good(HEAD + "frost 1" + signs.charAt(0) + "2 and 3" + signs.charAt(1) + "3;");
            faultAt(1, HEAD + "frost 1 or 1" + signs.charAt(0) + "2@" + signs.charAt(1) + "3;");
        }
    }

    /** Where a PART is due, all but a NUMBER, a fact, not and ( can't stand; none may stand where none is due. */
    private static void partsWanted() {
        for (String before : "|1+|1-|1*|1<|1=|1 and |1 or |not |(".split("\\|")) {
            for (String wrong : ") < = + - * ; and or rock mild at west foot x # abcdefghi 12345".split(" ")) {
                faultAt(1, HEAD + "frost " + before + "@" + wrong + " 1;");
            }
            faultAt(1, HEAD + "frost " + before + "@");
        }
        for (String behind : "1 hour not ( rock x # )".split(" ")) {
            faultAt(1, HEAD + "frost 1 @" + behind + " 1;");
            faultAt(1, HEAD + "frost hour @" + behind + " 1;");
            faultAt(1, HEAD + "frost (1) @" + behind + " 1;");
        }
        faultAt(1, HEAD + "frost (1@;");
        faultAt(1, HEAD + "frost ((1)@;");
        faultAt(1, HEAD + "frost ((1))@);");
        good(HEAD + "frost ((1));");
    }

    private static String wrapped(int kinds, int many, String part) {
        StringBuilder text = new StringBuilder();
        for (int i = 0; i < many; i++) {
            text.append((kinds >> i & 1) == 0 ? "(" : "not ");
        }
        text.append(part);
        for (int i = many - 1; i >= 0; i--) {
            text.append((kinds >> i & 1) == 0 ? ")" : "");
        }
        return text.toString();
    }

    /** No PART lies within 5 of not and ( ): within four it may, whichever they are; not, or a PART, within 5 is wrong. */
    private static void withinFive() {
        for (int kinds = 0; kinds < 16; kinds++) {
            good(HEAD + "frost " + wrapped(kinds, 4, "1") + ";");
            good(HEAD + "frost " + wrapped(kinds, 4, "hour*1") + "+" + wrapped(kinds, 4, "night") + ";");
            good(HEAD + "frost " + wrapped(kinds, 3, "not 1") + "or " + wrapped(15 - kinds, 3, "(1)") + ";");
        }
        for (int kinds = 0; kinds < 32; kinds++) {
            for (String part : "@1|@hour|@not 1|@(1)".split("\\|")) {
                faultAt(5, HEAD + "frost " + wrapped(kinds, 5, part) + ";");
            }
            for (String part : "@)|@+1|@;|@thick|@rock|@#|@12345".split("\\|")) {
                faultAt(1, HEAD + "frost " + wrapped(kinds, 5, part) + ";");
            }
        }
        faultAt(5, HEAD + "frost ((((1+2*3<4 and 5 or not @1))));");
        faultAt(5, HEAD + "frost ((((1))))+((((not @1))));");
        good(HEAD + "frost ((((1))+((2))))*(((3))+((not 4)));");
        faultAt(5, HEAD + "melt (((((@1)))));");
        faultAt(5, HEAD + "sound (((((@thick)))));");
        faultAt(5, HEAD + "first (((((@worth)))));");
        faultAt(1, HEAD + "frost (((((@");
    }

    private static void knows(String law, String facts) {
        for (String fact : "hour night column row current thick heavy worth wear".split(" ")) {
            boolean known = (" " + facts + " ").contains(" " + fact + " ");
            faultAt(known ? 0 : 1, HEAD + law + " @" + fact + ";");
            faultAt(known ? 0 : 1, HEAD + law + " 1+not (@" + fact + ");");
        }
        for (String other : "pails mild frost x hours".split(" ")) {
            faultAt(1, HEAD + law + " @" + other + ";");
        }
    }

    /** Facts: hour, night; but for first also column, row, current. */
    private static void factsOfFrostAndMelt() {
        knows("frost", "hour night column row current");
        knows("melt", "hour night column row current");
        IceBridge x = Due.fjord("fjord 8 6;current 6 at 1 1;frost (hour=3)*1+(night=1)*2+(column=7)*3+(row=5)*4+(current=6)*5;");
        is("column 0, row 0", 0, x.cell(0, 0, 3));
        is("column 7", 3, x.cell(7, 0, 3));
        is("row 5", 4, x.cell(0, 5, 3));
        is("column 7, row 5", 7, x.cell(7, 5, 3));
        is("current 6", 5, x.cell(1, 1, 3));
        x.hours(3);
        is("hour 3", 1, x.cell(0, 0, 3));
        x.hours(24);
        is("hour 3 of night 1", 3, x.cell(0, 0, 3));
    }

    /** In sound also thick. */
    private static void factsOfSound() {
        knows("sound", "hour night column row current thick");
        IceBridge x = Due.fjord("fjord 3 2;current 4 at 2 1;frost 5;pourer a west plain pails 9;"
            + "sound hour+night*2+column*3+row*4+current+(thick=5);");
        is("all 0", 0, x.sound(0, 0));
        is("column 2", 6, x.sound(2, 0));
        is("column 2, row 1, current 4", 4, x.sound(2, 1));
        x.pour(0, 0, 0);
        is("thick 5", 1, x.sound(0, 0));
        x.hours(24 + 3);
        is("hour 3, night 1", 5, x.sound(1, 0) - 3);
    }

    /** In first also heavy (what the LOAD needs), worth, wear; no column, row, current there. */
    private static void factsOfFirst() {
        knows("first", "hour night heavy worth wear");
        String two = "fjord 2 1;load a horse heavy 4 worth 3;load b foot heavy 4 worth 4;";
        is("heavy: 5 ahead of 4", 0, Due.fjord(two + "first heavy;").queue(0, 2));
        is("less heavy: 4 ahead of 5", 1, Due.fjord(two + "first 0-heavy;").queue(0, 2));
        is("heavy is what it needs", 1, Due.fjord(two + "first (heavy=5)-2*(heavy=5);").queue(0, 2));
        is("worth: 4 ahead of 3", 1, Due.fjord(two + "first worth;").queue(0, 2));
        is("less worth: 3 ahead of 4", 0, Due.fjord(two + "first 0-worth;").queue(0, 2));
        is("wear: 2 ahead of 1", 0, Due.fjord(two + "first wear;").queue(0, 2));
        is("less wear: 1 ahead of 2", 1, Due.fjord(two + "first 0-wear;").queue(0, 2));
        is("wear is 1", 1, Due.fjord(two + "first wear=1;").queue(0, 2));
        IceBridge x = Due.fjord(two + "first worth*(1-(hour=1)*2-(night=1)*2);");
        is("by worth", 1, x.queue(0, 2));
        x.hours(1);
        is("at hour 1 against it", 0, x.queue(0, 2));
        x.hours(23);
        is("at night 1 against it", 0, x.queue(0, 2));
    }

    /** current: 0 where none is told. */
    private static void currentWhereNoneIsTold() {
        IceBridge x = Due.fjord("fjord 2 1;current 1 at 0 0;frost current;");
        is("told", 1, x.cell(0, 0, 3));
        is("not told", 0, x.cell(1, 0, 3));
    }

    /** Of not, and, or, less and = comes 1 or 0; what is not 0 is so. */
    private static void oneOrNothing() {
        frostIs(1, "5 and 7");
        frostIs(0, "5 and 0");
        frostIs(0, "0 and 5");
        frostIs(1, "(0-1) and 2");
        frostIs(1, "4 and 8");
        frostIs(1, "0 or 9");
        frostIs(1, "9 or 0");
        frostIs(0, "0 or 0");
        frostIs(1, "0 or (0-9)");
        frostIs(1, "not 0");
        frostIs(0, "not 1");
        frostIs(0, "not 2");
        frostIs(0, "not (0-1)");
        frostIs(1, "not not 7");
        frostIs(1, "2<3");
        frostIs(0, "3<3");
        frostIs(0, "4<3");
        frostIs(0, "2=3");
        frostIs(1, "3=3");
        frostIs(0, "4=3");
    }

    /** Ints wrap: 8192*8*8192*4 is 2147483648. */
    private static void intsWrap() {
        String top = "8192*8*8192*4";
        frostIs(1, top + "<0");
        frostIs(0, top + "-1<0");
        frostIs(1, "0-(" + top + "-1)-1=" + top);
        frostIs(1, "0-" + top + "<0");
        frostIs(1, top + "+" + top + "=0");
        frostIs(5, top + "*2+5");
        frostIs(1, top + "<1");
        frostIs(0, "1<" + top);
        frostIs(1, top + "<" + top + "-1");
        frostIs(1, "9999*9999*9999<0");
        frostIs(0, "9999*9999*9999*9999<0");
    }

    /** Without frost: 2; without melt: 1; without sound: thick; without first: worth. */
    private static void withoutLaws() {
        IceBridge x = Due.fjord("fjord 2 1;pourer a west plain pails 9;load b horse heavy 3 worth 1;load c foot heavy 1 worth 2;");
        is("2", 2, x.cell(1, 0, 3));
        x.pour(0, 0, 0);
        x.pour(0, 0, 0);
        is("thick 4", 4, x.sound(0, 0));
        is("thick 0", 0, x.sound(1, 0));
        is("worth 2 ahead of 1", 1, x.queue(0, 2));
        is("worth 1 behind", 0, x.queue(0, 3));
        x.hours(13);
        is("1", 3, x.cell(0, 0, 0));
        is("2 by day, too", 2, x.cell(1, 0, 3));
    }

    // ---- FAULTS

    private static void faults() {
        placesCountAllSigns();
        theFirstFromTheLeft();
        theLeast();
        theEnd();
        withoutFaultAllBegins();
        withFaultAllStays();
    }

    private static void placesCountAllSigns() {
        faultAt(1, "\n\n  fjord  4\n2 ;  @x");
        faultAt(4, "  fjord \n @1 1;");
        faultAt(1, " ".repeat(999) + "@x");
        faultAt(4, "fjord 4 2;" + " ".repeat(983) + "mild @99");
    }

    /** The FAULT is of the first token from the left that is wrong. */
    private static void theFirstFromTheLeft() {
        faultAt(4, "fjord @1 9;#");
        faultAt(4, HEAD + "rock @4 2;rock 0 0;rock 0 0;");
        faultAt(3, HEAD + "rock 0 0;rock 0 @0;rock 9 9;#");
        faultAt(1, HEAD + "load @rock plain heavy 99 worth 100;");
        faultAt(1, HEAD + "load a @plain heavy 99 worth 100;");
        faultAt(4, HEAD + "load a foot heavy @99 worth 100;");
        faultAt(4, HEAD + "load a foot heavy 9 worth @100 #");
        faultAt(3, HEAD + "frost 1;@frost (((((1)))));");
        faultAt(5, HEAD + "frost (((((@1)))));frost 1;");
        faultAt(1, HEAD + "frost 1 @2 3;frost 1;");
    }

    /** A token that is wrong in two ways has the least of their kinds. */
    private static void theLeast() {
        faultAt(1, HEAD + "frost (((((@worth)))));");
        faultAt(5, HEAD + "first (((((@worth)))));");
        faultAt(1, HEAD + "frost not not not not not @or 1;");
        faultAt(1, pourers(6) + "load @pourer foot heavy 1 worth 1;");
        faultAt(1, "@pourer a west plain pails 1;");
    }

    /** The end is a token at the text's length: wherever more is due. */
    private static void theEnd() {
        String line = "fjord 4 2;rock 1 1;current 3 at 2 0;pourer a west plain pails 1;load b foot heavy 1 worth 1;mild 3;frost 1 and(2);";
        for (int length = 0; length <= line.length(); length++) {
            String text = line.substring(0, length);
            boolean whole = text.endsWith(";");
            boolean inAWord = length > 0 && length < line.length() && Character.isLetter(line.charAt(length))
                && Character.isLetter(line.charAt(length - 1));
            if (!inAWord) {
                fault(whole ? 0 : 1, length, text);
                fault(whole ? 0 : 1, length + 2, text + " \n");
            }
        }
    }

    private static final String TEXT = "fjord 4 2;frost 4;mild 3;pourer a west plain pails 3;load b foot heavy 1 worth 1;";

    private static IceBridge used() {
        IceBridge x = Due.fjord(TEXT);
        Due.yes("mark 1 laid at first", x.mark(1, false));
        Due.is("hours", 24 + 13, x.hours(24 + 13));
        x.hours(11);
        for (int column = 0; column < 3; column++) {
            Due.yes("pour", x.pour(0, column, 0));
        }
        Due.yes("share", x.share(0, 9));
        Due.yes("stump", x.stump(0, 0, 0));
        Due.yes("mark 2 laid", x.mark(2, false));
        return x;
    }

    /** Without a FAULT: HOUR 0 of NIGHT 0, no ice, all pails full, no shares, no stump, nothing to undo; MARKS stay. */
    private static void withoutFaultAllBegins() {
        IceBridge x = used();
        x.hours(13);
        is("melted", 3, x.count(7));
        is("again", 0, Due.read(x, TEXT));
        int[] want = {4, 2, 1, 1, 0, 0, 0, 0, 0, 0, 0, 3, 0};
        for (int what = 0; what < want.length; what++) {
            is("begun: count " + what, want[what], x.count(what));
        }
        is("no ice", 0, x.cell(0, 0, 0));
        is("all pails", 3, x.pourer(0, 2));
        is("no share", 0, x.pourer(0, 3));
        is("no stump", NONE, x.fits(0, 0, 0, 12, 0));
        is("not over", 0, x.load(0, 3));
        Due.no("nothing to undo", x.undo());
        Due.yes("mark 1 stays", x.mark(1, true));
        Due.yes("mark 2 stays", x.mark(2, true));
        is("with its night", 2, x.count(5));
        is("with its share", 9, x.pourer(0, 3));
        IceBridge y = Due.fjord(TEXT + "rock 0 0;rock 1 0;rock 2 0;rock 3 0;");
        Due.yes("over", y.over(0, 0));
        is("over", 1, y.load(0, 3));
        is("can be undone", 1, y.count(10));
        is("again", 0, Due.read(y, TEXT));
        is("can't be any more", 0, y.count(10));
        Due.no("nothing to undo", y.undo());
        is("not over", 0, y.load(0, 3));
        is("no rock", 0, y.cell(0, 0, 1));
        is("a smaller one", 0, Due.read(y, "fjord 2 1;"));
        is("mild is gone, too", 0, y.count(11));
        is("the laws, too", 2, y.cell(0, 0, 3));
        is("and the pourers", 0, y.count(2));
    }

    /** With a FAULT all stays, but for the TAPE. */
    private static void withFaultAllStays() {
        for (String text : new String[] {"", "fjord 4 2;#", TEXT + "frost 2;", "fjord 2 1;frost 9;mild 11;", "fjord 2 1;rock 0 0;rock 1 0"}) {
            IceBridge x = used();
            int before = x.count(6);
            Due.is("a fault", true, Due.read(x, text) != 0);
            int[] want = {4, 2, 1, 1, 0, 2, before, 0, 0, 12, 3, 3, 0};
            for (int what = 0; what < want.length; what++) {
                is("stays: count " + what, want[what], x.count(what));
            }
            is("grip stays", 4, x.cell(0, 0, 3));
            is("ground stays", 0, x.cell(0, 0, 1));
            is("pails stay", 0, x.pourer(0, 2));
            is("share stays", 9, x.pourer(0, 3));
            is("stump stays", 1, x.fits(0, 0, 0, 12, 0));
            Due.yes("undo stays", x.undo());
            Due.yes("marks stay", x.mark(1, true));
        }
    }
}
