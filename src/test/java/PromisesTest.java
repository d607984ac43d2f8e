/** The promises of the document one by one, by hand: ordinary inputs, the edges that it names, wrong inputs. */
public final class PromisesTest {
    private static final int NONE = IceBridge.NONE;
    private static final int THROWN = Due.THROWN;
    private static final int[] WILD = {Integer.MIN_VALUE, -2, 1000000, Integer.MAX_VALUE};

    private PromisesTest() {
    }

    public static void main(String[] args) {
        newObject();
        feed();
        fjord();
        cell();
        pourer();
        load();
        pour();
        over();
        undo();
        hours();
        thin();
        until();
        carried();
        built();
        best();
        half();
        rests();
        guess();
        queue();
        toll();
        sound();
        heard();
        value();
        share();
        leaves();
        stump();
        fits();
        salted();
        winter();
        mark();
        count();
        Due.end();
    }

    private static void is(String call, int want, int got) {
        Due.is(call, want, got);
    }

    private static void yes(String call, boolean got) {
        Due.is(call, true, got);
    }

    private static void no(String call, boolean got) {
        Due.is(call, false, got);
    }

    /** Promise 1. */
    private static void newObject() {
        IceBridge x = new IceBridge();
        int[] want = {2, 1, 0, 0, 0, 0, 0, 0, 0, 0, 0, 0, 0};
        for (int what = 0; what < want.length; what++) {
            is("new: count " + what, want[what], x.count(what));
        }
        is("new: grip", 2, x.cell(1, 0, 3));
        is("new: ground", 0, x.cell(0, 0, 1));
        is("new: sound is thick", 0, x.sound(0, 0));
        is("new: pourer", NONE, x.pourer(0, 0));
        is("new: load", NONE, x.load(0, 0));
        no("new: mark", x.mark(0, true));
        is("NONE", -1, NONE);
    }

    /** Promise 2. */
    private static void feed() {
        IceBridge x = new IceBridge();
        is("feed nothing", 0, x.feed(0, 0, 0));
        is("feed highest first", 1, x.feed((long) 'f' << 56, 0, 0));
        is("feed lowest", 2, x.feed('j', 0, 0));
        is("feed b and c", 5, x.feed(0, Due.pack("or", 0), Due.pack("d", 0)));
        is("others are left out", 5, x.feed(0x00097F80FF1F0B0DL, -1, Long.MIN_VALUE));
        is("blanks and bounds are taken", 9, x.feed(0x200A7E0000000000L, 0, ' '));
        IceBridge y = new IceBridge();
        is("gaps close up", 9, y.feed(Due.pack("fj\1ord 4", 0), 0, Due.pack(" 2", 0)));
        is("the last sign", 10, y.feed(0, 0, ';'));
        is("it is read in order", 0, y.fjord());
        is("columns", 4, y.count(0));
        for (int i = 1; i <= 41; i++) {
            is("feed " + i, i * 24, y.feed(0x2020202020202020L, 0x2020202020202020L, 0x2020202020202020L));
        }
        is("up to 1,000", 1000, y.feed(0x2020202020202020L, 0x2020202020202020L, 0x2020202020202020L));
        is("beyond 1,000", 1000, y.feed(0x2020202020202020L, 1, 2));
        is("1,000 blanks: the end is wrong", 1 + 16 * 1000, y.fjord());
        is("taken", 0, y.count(12));
    }

    private static void fault(int kind, int place, String text) {
        Due.fault(kind, place, text);
    }

    private static void faultAt(int kind, String text) {
        Due.faultAt(kind, text);
    }

    /** Promise 3. */
    private static void fjord() {
        headings();
        grounds();
        people();
        laws();
        depths();
        longest();
        fjordBegins();
    }

    private static void longest() {
        String head = "fjord 2 1;frost 498";
        String ones = "-1".repeat(490);
        String full = head + ones + ";";
        is("1,000 signs", 1000, full.length());
        is("498 less 490", 8, Due.fjord(full).cell(0, 0, 3));
        fault(1, 1000, head + ones + "1");
        faultAt(1, "fjord 2 1;" + " ".repeat(982) + "@abcdefgh");
        faultAt(1, "fjord 2 1;" + " ".repeat(986) + "@1234");
        is("nothing but blanks behind", 0, Due.read(new IceBridge(), "fjord 2 1;" + "\n".repeat(990)));
        IceBridge x = new IceBridge();
        Due.read(x, "fjord 2 1;rock 0 0;");
        is("what was read before is gone", 1 + 16 * 9, Due.read(x, "fjord 2 1"));
        is("a word that went on before", 1, Due.read(x, "fjor"));
        String nested = "9";
        for (int i = 0; i < 4; i++) {
            nested = "0 or 0<0+1*(" + nested + ")";
        }
        frostIs(1, nested);
        frostIs(0, nested.replace("9", "0"));
    }

    private static void headings() {
        faultAt(1, "@");
        faultAt(1, "  @");
        faultAt(1, "@rock 0 0;");
        faultAt(1, "fjord@");
        faultAt(1, "fjord @;");
        faultAt(1, "fjord 4@;");
        faultAt(1, "fjord 4 2@");
        faultAt(1, "fjord 4 2  @");
        faultAt(1, "fjord 4 2;@fjord 4 2;");
        faultAt(1, "fjord 4 2;@;");
        faultAt(1, "fjord 4 2;@x;");
        faultAt(1, "fjord 4 2;@3;");
        faultAt(1, "fjord 4 2;@at;");
        faultAt(4, "fjord @1 1;");
        faultAt(4, "fjord @11 1;");
        faultAt(4, "fjord 2 @0;");
        faultAt(4, "fjord 2 @7;");
        faultAt(1, "fjord @00004 2;");
        faultAt(1, "fjord -@4 2;".replace("-@", "@-"));
        faultAt(1, "@fjordfjord 4 2;");
        faultAt(1, "@Fjord 4 2;");
        faultAt(1, "@#fjord 4 2;");
        faultAt(1, "fjord 4 2@.;");
        fault(0, 0, "fjord 2 1;");
        fault(0, 0, "fjord 10 6;");
        fault(0, 0, "\n fjord\n0004 2 ;\n");
        fault(0, 0, "fjord4 2;mild3;");
    }

    private static void grounds() {
        faultAt(4, "fjord 4 2;rock @4 0;");
        faultAt(4, "fjord 4 2;rock 3 @2;");
        faultAt(3, "fjord 4 2;rock 3 1;rock 3 @1;");
        faultAt(3, "fjord 4 2;rock 3 1;salt 3 @1;");
        faultAt(3, "fjord 4 2;salt 3 1;rock 3 @1;");
        faultAt(3, "fjord 4 2;salt 3 1;salt 3 @1;");
        faultAt(3, "fjord 4 2;current 1 at 3 1;current 2 at 3 @1;");
        faultAt(3, "fjord 4 2;rock 1 1;rock 1 @1 1;");
        fault(0, 0, "fjord 4 2;rock 3 1;current 9 at 3 1;salt 3 0;current 1 at 3 0;");
        faultAt(4, "fjord 4 2;current @0 at 3 1;");
        faultAt(4, "fjord 4 2;current @10 at 3 1;");
        faultAt(1, "fjord 4 2;current 1 @3 1;");
        faultAt(4, "fjord 4 2;current 1 at @4 1;");
        faultAt(1, "fjord 4 2;rock 3@;");
        faultAt(1, "fjord 4 2;rock 3 1 @1;");
        faultAt(1, "fjord 4 2;rock @a 1;");
        faultAt(1, "fjord 4 2;rock 3 1@");
    }

    private static void people() {
        String six = "fjord 4 2;pourer a west plain pails 0;pourer b east lover pails 99;pourer c west child pails 1;"
            + "pourer d west smith pails 1;pourer e west plain pails 1;pourer f west plain pails 1;";
        fault(0, 0, six);
        faultAt(5, six + "@pourer g west plain pails 1;");
        faultAt(5, six + "@pourer 1");
        String seven = "fjord 4 2;load a foot heavy 1 worth 0;load b horse heavy 50 worth 99;load c sledge heavy 1 worth 1;"
            + "load d hearse heavy 1 worth 0;load e dance heavy 1 worth 0;load f foot heavy 1 worth 0;"
            + "load g foot heavy 1 worth 0;";
        fault(0, 0, seven);
        faultAt(5, seven + "@load h foot heavy 1 worth 0;");
        faultAt(4, "fjord 4 2;pourer a west plain pails @100;");
        faultAt(4, "fjord 4 2;load a foot heavy @0 worth 0;");
        faultAt(4, "fjord 4 2;load a foot heavy @51 worth 0;");
        faultAt(4, "fjord 4 2;load a foot heavy 50 worth @100;");
        faultAt(1, "fjord 4 2;pourer a @plain west pails 1;");
        faultAt(1, "fjord 4 2;pourer a west @foot pails 1;");
        faultAt(1, "fjord 4 2;load a @plain heavy 1 worth 1;");
        faultAt(1, "fjord 4 2;load a foot @worth 1 heavy 1;");
        faultAt(1, "fjord 4 2;pourer @1 west plain pails 1;");
        faultAt(1, "fjord 4 2;pourer @abcdefghi west plain pails 1;");
        fault(0, 0, "fjord 4 2;pourer abcdefgh west plain pails 1;pourer abcdefg west plain pails 1;");
        faultAt(3, "fjord 4 2;pourer abcdefgh west plain pails 1;pourer @abcdefgh west plain pails 1;");
        faultAt(3, "fjord 4 2;pourer a west plain pails 1;load @a foot heavy 1 worth 1;");
        faultAt(3, "fjord 4 2;load a foot heavy 1 worth 1;pourer @a west plain pails 1;");
        String reserved = "fjord rock salt current at pourer pails load heavy worth frost melt sound first mild west east plain "
            + "lover child smith foot horse sledge hearse dance not and or";
        for (String name : reserved.split(" ")) {
            faultAt(1, "fjord 4 2;pourer @" + name + " west plain pails 1;");
            faultAt(1, "fjord 4 2;load @" + name + " foot heavy 1 worth 1;");
        }
        for (String name : "hour night column row thick wear in a z side kind none".split(" ")) {
            fault(0, 0, "fjord 4 2;load " + name + " foot heavy 1 worth 1;");
        }
    }

    private static void laws() {
        for (String word : "frost melt sound first mild".split(" ")) {
            fault(0, 0, "fjord 4 2;" + word + " 1;");
            faultAt(3, "fjord 4 2;" + word + " 1;@" + word + " 1;");
            faultAt(1, "fjord 4 2;" + word + " @;");
            faultAt(1, "fjord 4 2;" + word + " 1@");
        }
        faultAt(4, "fjord 4 2;mild @11;");
        faultAt(1, "fjord 4 2;mild @hour;");
        fault(0, 0, "fjord 4 2;mild 10;");
        String all = "hour night column row current thick heavy worth wear";
        String place = " hour night column row current ";
        for (String fact : all.split(" ")) {
            knows("frost", fact, place.contains(" " + fact + " "));
            knows("melt", fact, place.contains(" " + fact + " "));
            knows("sound", fact, (place + "thick ").contains(" " + fact + " "));
            knows("first", fact, " hour night heavy worth wear ".contains(" " + fact + " "));
        }
        knows("frost", "pails", false);
        knows("first", "x", false);
        faultAt(1, "fjord 4 2;frost 1<2@<3;");
        faultAt(1, "fjord 4 2;frost 1=2@<3;");
        fault(0, 0, "fjord 4 2;frost (1<2)<3;");
        faultAt(1, "fjord 4 2;frost 1 and 2<3@=4;");
        faultAt(1, "fjord 4 2;frost @-1;");
        faultAt(1, "fjord 4 2;frost 1@ 2;".replace("@ ", " @"));
        faultAt(1, "fjord 4 2;frost 1+@;");
        faultAt(1, "fjord 4 2;frost 1+@*2;");
        faultAt(1, "fjord 4 2;frost (1@;");
        faultAt(1, "fjord 4 2;frost (@);");
        faultAt(1, "fjord 4 2;frost 1@);");
        faultAt(1, "fjord 4 2;frost 1@not 2;");
        faultAt(1, "fjord 4 2;frost @and 2;");
        faultAt(1, "fjord 4 2;frost @12345;");
        fault(0, 0, "fjord 4 2;frost 9999and hour or not not night;");
        frostIs(9, "9999*9999");
        frostIs(0, "0-1");
        frostIs(1, "2 or 0 and 1");
        frostIs(0, "1 or 1 and 0");
        frostIs(7, "1+2*3");
        frostIs(3, "9-4-2");
        frostIs(9, "(1+2)*3");
        frostIs(7, "not 0*7+0");
        frostIs(8, "not 0+7");
        frostIs(1, "3<4");
        frostIs(0, "4<4");
        frostIs(1, "2+2=4");
        frostIs(0, "4=5");
        frostIs(1, "not not 5");
        frostIs(5, "5*not 0");
        frostIs(1, "0or5");
        frostIs(1, "1<2 and 3=3");
        // 65536 * 65536 wraps to 0
        frostIs(6, "6+8192*8*8192*8");
        frostIs(0, "8192*8*4096*8");
        frostIs(1, "8192*8*4096*8<0");
    }

    private static void knows(String law, String fact, boolean known) {
        faultAt(known ? 0 : 1, "fjord 4 2;" + law + " @" + fact + ";");
    }

    private static void frostIs(int want, String e) {
        is("frost " + e, want, Due.fjord("fjord 4 2;frost " + e + ";").cell(0, 0, 3));
    }

    private static void depths() {
        fault(0, 0, "fjord 4 2;frost ((((1))));");
        faultAt(5, "fjord 4 2;frost (((((@1)))));");
        faultAt(5, "fjord 4 2;frost (((((@hour)))));");
        faultAt(5, "fjord 4 2;frost (((((@(1))))));");
        faultAt(5, "fjord 4 2;frost (((((@not 1)))));");
        faultAt(1, "fjord 4 2;frost (((((@)))));");
        faultAt(1, "fjord 4 2;frost (((((@");
        faultAt(1, "fjord 4 2;frost (((((@thick");
        fault(0, 0, "fjord 4 2;frost not not not not 1;");
        faultAt(5, "fjord 4 2;frost not not not not not @1;");
        faultAt(5, "fjord 4 2;frost not not not not not @not 1;");
        faultAt(5, "fjord 4 2;frost not (not (not @1));");
        fault(0, 0, "fjord 4 2;frost not (not (1))+((((1))))*not not((1));");
        faultAt(5, "fjord 4 2;frost ((((1+2*3<not @4))));");
    }

    private static void fjordBegins() {
        IceBridge x = full();
        x.pour(0, 0, 0);
        x.hours(30);
        x.pour(0, 0, 0);
        x.share(0, 4);
        x.stump(0, 0, 3);
        x.mark(1, false);
        is("a fault", 1, Due.read(x, "no;"));
        is("all stays: cells", 4, x.count(0));
        is("all stays: hour", 6, x.count(4));
        is("all stays: what can be undone", 1, x.count(10));
        is("read again", 0, Due.read(x, TEXT));
        int[] want = {4, 2, 4, 5, 0, 0, 0, 0, 0, 0, 0, 0, 0};
        for (int what = 0; what < want.length; what++) {
            is("begun: count " + what, want[what], x.count(what));
        }
        is("begun: pails", 6, x.pourer(0, 2));
        is("begun: share", 0, x.pourer(0, 3));
        is("begun: stump", NONE, x.fits(0, 0, 0, 12, 0));
        no("begun: undo", x.undo());
        yes("begun: marks stay", x.mark(1, true));
        is("begun: and are gone back to", 1, x.count(5));
    }

    private static final String TEXT = "fjord 4 2;rock 1 0;salt 2 0;current 3 at 3 1;pourer ann west plain pails 6;"
        + "pourer bob east lover pails 4;pourer cat west child pails 2;pourer dan east smith pails 3;"
        + "load eve foot heavy 3 worth 5;frost 4;melt 1+current;load gus horse heavy 3 worth 9;"
        + "load hal sledge heavy 1 worth 4;load ian hearse heavy 5 worth 2;load joe dance heavy 2 worth 6;";

    private static IceBridge full() {
        return Due.fjord(TEXT);
    }

    /** Promise 4. */
    private static void cell() {
        IceBridge x = Due.fjord("fjord 3 2;rock 0 0;salt 1 0;current 9 at 0 0;current 4 at 2 1;"
            + "frost 1+column*3+row-hour*(night=0)+current*0;pourer a east plain pails 9;");
        yes("pour", x.pour(0, 2, 0));
        is("thick", 7, x.cell(2, 0, 0));
        is("thick of a rock", 0, x.cell(0, 0, 0));
        is("rock", 1, x.cell(0, 0, 1));
        is("salt", 2, x.cell(1, 0, 1));
        is("water", 0, x.cell(2, 0, 1));
        is("current", 4, x.cell(2, 1, 2));
        is("current on a rock", 9, x.cell(0, 0, 2));
        is("no current", 0, x.cell(1, 1, 2));
        is("grip of a rock", 1, x.cell(0, 0, 3));
        is("grip on salt", 2, x.cell(1, 0, 3));
        is("grip", 5, x.cell(1, 1, 3));
        x.hours(3);
        is("grip later", 4, x.cell(2, 0, 3));
        is("grip on salt later", 0, x.cell(1, 0, 3));
        x.hours(9);
        is("grip below 0", 0, x.cell(2, 1, 3));
        x.hours(12);
        is("grip next night", 8, x.cell(2, 1, 3));
        is("grip above 9", 9, Due.fjord("fjord 2 1;frost 10;").cell(0, 0, 3));
        is("half of 9", 4, Due.fjord("fjord 2 1;frost 99;salt 0 0;").cell(0, 0, 3));
        for (int wild : WILD) {
            is("cell column", NONE, x.cell(wild, 0, 0));
            is("cell row", NONE, x.cell(0, wild, 0));
            is("cell what", NONE, x.cell(0, 0, wild));
        }
        is("column 3", NONE, x.cell(3, 0, 0));
        is("row 2", NONE, x.cell(0, 2, 0));
        is("what 4", NONE, x.cell(0, 0, 4));
        is("what -1", NONE, x.cell(0, 0, -1));
        is("column -1", NONE, x.cell(-1, 0, 0));
        is("row -1", NONE, x.cell(0, -1, 0));
    }

    /** Promise 5. */
    private static void pourer() {
        IceBridge x = full();
        int[][] want = {{0, 0, 6, 0}, {1, 1, 4, 0}, {0, 2, 2, 0}, {1, 3, 3, 0}};
        for (int p = 0; p < 4; p++) {
            for (int what = 0; what < 4; what++) {
                is("pourer " + p + " " + what, want[p][what], x.pourer(p, what));
            }
            is("pourer what 4", NONE, x.pourer(p, 4));
            is("pourer what -1", NONE, x.pourer(p, -1));
        }
        x.pour(3, 3, 0);
        x.share(3, 999);
        is("pails left", 2, x.pourer(3, 2));
        is("share", 999, x.pourer(3, 3));
        x.hours(24);
        is("full again", 3, x.pourer(3, 2));
        is("share stays", 999, x.pourer(3, 3));
        is("pourer 4", NONE, x.pourer(4, 0));
        is("pourer -1", NONE, x.pourer(-1, 0));
        for (int wild : WILD) {
            is("pourer wild", NONE, x.pourer(wild, 0));
            is("what wild", NONE, x.pourer(0, wild));
        }
    }

    /** Promise 6. */
    private static void load() {
        IceBridge x = full();
        int[][] want = {{0, 3, 5, 0}, {1, 4, 9, 0}, {2, 1, 4, 0}, {3, 5, 2, 0}, {4, 2, 6, 0}};
        for (int l = 0; l < 5; l++) {
            for (int what = 0; what < 4; what++) {
                is("load " + l + " " + what, want[l][what], x.load(l, what));
            }
            is("load what 4", NONE, x.load(l, 4));
            is("load what -1", NONE, x.load(l, -1));
        }
        IceBridge y = Due.fjord("fjord 2 1;load a sledge heavy 2 worth 1;load b sledge heavy 50 worth 1;load c horse heavy 50 worth 1;"
            + "rock 0 0;rock 1 0;");
        is("sledge 2", 1, y.load(0, 1));
        is("sledge 50", 49, y.load(1, 1));
        is("horse 50", 51, y.load(2, 1));
        yes("over rocks", y.over(2, 0));
        is("over", 1, y.load(2, 3));
        is("not over", 0, y.load(1, 3));
        is("load 3", NONE, y.load(3, 0));
        is("load -1", NONE, y.load(-1, 0));
        for (int wild : WILD) {
            is("load wild", NONE, y.load(wild, 0));
            is("what wild", NONE, y.load(0, wild));
        }
    }

    /** Promise 7. */
    private static void pour() {
        IceBridge x = full();
        no("a rock", x.pour(0, 1, 0));
        no("behind water", x.pour(0, 2, 0));
        no("behind water from the east", x.pour(3, 2, 0));
        no("the other shore", x.pour(0, 3, 0));
        yes("the shore", x.pour(0, 0, 0));
        is("thicker by grip", 4, x.cell(0, 0, 0));
        yes("behind a rock", x.pour(0, 2, 0));
        is("thicker by half on salt", 2, x.cell(2, 0, 0));
        yes("a smith", x.pour(3, 3, 0));
        is("a smith's by 1 more", 5, x.cell(3, 0, 0));
        no("a lover on ice", x.pour(1, 3, 0));
        yes("a lover on water", x.pour(1, 3, 1));
        yes("a lover behind ice", x.pour(1, 2, 1));
        no("a child beyond three cells", x.pour(2, 3, 0));
        yes("a child on the third, with a rock among", x.pour(2, 2, 0));
        yes("a child's last", x.pour(2, 0, 0));
        no("none left", x.pour(2, 0, 0));
        is("pails left", 0, x.pourer(2, 2));
        is("frozen", 4 + 2 + 5 + 4 + 4 + 2 + 4, x.count(6));
        int[][] wrong = {{-1, 0, 0}, {4, 0, 0}, {0, -1, 0}, {0, 4, 0}, {0, 0, -1}, {0, 0, 2}};
        for (int[] w : wrong) {
            no("pour wrong", x.pour(w[0], w[1], w[2]));
        }
        for (int wild : WILD) {
            no("pourer wild", x.pour(wild, 0, 0));
            no("column wild", x.pour(0, wild, 0));
            no("row wild", x.pour(0, 0, wild));
        }
        x.hours(11);
        yes("at hour 11", x.pour(0, 0, 0));
        x.hours(1);
        no("at hour 12", x.pour(0, 0, 0));
        x.hours(11);
        no("at hour 23", x.pour(0, 0, 0));
        thickest();
        eastChild();
    }

    private static void thickest() {
        IceBridge x = Due.fjord("fjord 2 1;frost 9*(hour<1);pourer a west plain pails 99;pourer b west smith pails 99;");
        for (int i = 0; i < 10; i++) {
            yes("pour", x.pour(1, 0, 0));
        }
        is("99 at most", 99, x.cell(0, 0, 0));
        is("frozen is what there is", 99, x.count(6));
        yes("a pail on 99", x.pour(0, 0, 0));
        is("still 99", 99, x.cell(0, 0, 0));
        is("nothing froze", 99, x.count(6));
        x.hours(1);
        yes("without grip", x.pour(0, 1, 0));
        is("no ice by it", 0, x.cell(1, 0, 0));
        is("the pail is gone", 97, x.pourer(0, 2));
        yes("a smith without grip", x.pour(1, 1, 0));
        is("1 by a smith", 1, x.cell(1, 0, 0));
    }

    private static void eastChild() {
        IceBridge x = Due.fjord("fjord 5 1;pourer a east child pails 9;pourer b west child pails 9;pourer c east lover pails 9;");
        no("east: second first", x.pour(0, 3, 0));
        yes("east: first", x.pour(0, 4, 0));
        yes("east: second", x.pour(0, 3, 0));
        yes("east: third", x.pour(0, 2, 0));
        no("east: fourth", x.pour(0, 1, 0));
        yes("a lover may", x.pour(2, 1, 0));
        yes("west: first", x.pour(1, 0, 0));
        yes("west: third", x.pour(1, 2, 0));
        no("west: fourth", x.pour(1, 3, 0));
    }

    /** A row of rocks and one of ice, four loads of one worth, four of each wear. */
    private static IceBridge iced(int thick, String more) {
        IceBridge x = Due.fjord("fjord 2 2;rock 0 1;rock 1 1;frost (hour=0)*" + thick
            + "+(hour=2)*3;pourer pw west plain pails 9;pourer pe east plain pails 9;" + more);
        yes("pour", x.pour(0, 0, 0));
        yes("pour", x.pour(1, 1, 0));
        return x;
    }

    private static final String FIVE = "load f foot heavy 3 worth 1;load h horse heavy 3 worth 1;load s sledge heavy 3 worth 1;"
        + "load c hearse heavy 3 worth 1;load d dance heavy 3 worth 1;";

    /** Promise 8. */
    private static void over() {
        int[] wear = {1, 2, 1, 0, 3};
        int[] need = {3, 4, 2, 3, 3};
        for (int l = 0; l < 5; l++) {
            IceBridge x = iced(need[l] - 1, FIVE);
            no("too thin for " + l, x.over(l, 0));
            is("nothing worn", 0, x.count(8));
            is("not over", 0, x.load(l, 3));
            IceBridge y = iced(need[l], FIVE);
            yes("thick enough for " + l, y.over(l, 0));
            is("thinner by wear of " + l, need[l] - wear[l], y.thin(0));
            is("worn by " + l, 2 * wear[l], y.count(8));
            is("over " + l, 1, y.load(l, 3));
            no("over already " + l, y.over(l, 1));
        }
        IceBridge x = iced(2, "load d dance heavy 1 worth 1;load e foot heavy 1 worth 1;");
        yes("a dance on thin ice", x.over(0, 0));
        is("0 at least", 0, x.cell(0, 0, 0));
        is("worn is what there was", 4, x.count(8));
        no("on water", x.over(1, 0));
        x.hours(13);
        yes("by day on rocks", x.over(1, 1));
        is("rocks do not wear", 4, x.count(8));
        x.hours(10);
        no("at 23 still over", x.over(1, 1));
        x.hours(1);
        yes("hour 0 begins anew", x.over(1, 1));
        no("load 2", x.over(2, 1));
        no("load -1", x.over(-1, 1));
        no("row 2", x.over(0, 2));
        no("row -1", x.over(0, -1));
        for (int wild : WILD) {
            no("load wild", x.over(wild, 1));
            no("row wild", x.over(0, wild));
        }
    }

    /** Promise 9. */
    private static void undo() {
        IceBridge x = iced(2, "load d dance heavy 1 worth 1;");
        is("two", 2, x.count(10));
        yes("over", x.over(0, 0));
        yes("undo a load", x.undo());
        is("thick again", 2, x.cell(0, 0, 0));
        is("unworn", 0, x.count(8));
        is("not over", 0, x.load(0, 3));
        yes("undo a pail", x.undo());
        is("water again", 0, x.cell(1, 0, 0));
        is("pail back", 9, x.pourer(1, 2));
        is("unfrozen", 2, x.count(6));
        yes("undo the first", x.undo());
        no("nothing", x.undo());
        is("none", 0, x.count(10));
        IceBridge y = Due.fjord("fjord 2 1;frost 1;pourer a west plain pails 99;");
        for (int i = 0; i < 25; i++) {
            yes("pour", y.pour(0, 0, 0));
            is("undoable", Math.min(20, i + 1), y.count(10));
        }
        no("a pail that can't be", y.pour(0, 0, 1));
        is("is not kept", 20, y.count(10));
        is("hours that can't be", NONE, y.hours(0));
        is("undo nothing", 20, y.count(10));
        y.share(0, 3);
        y.stump(0, 0, 3);
        for (int i = 0; i < 20; i++) {
            yes("undo " + i, y.undo());
            is("thick", 24 - i, y.cell(0, 0, 0));
            is("left", 75 + i, y.pourer(0, 2));
        }
        no("the last 20 alone", y.undo());
        is("five stay", 5, y.cell(0, 0, 0));
        is("shares are not undone", 3, y.pourer(0, 3));
        y.pour(0, 0, 0);
        is("one", 1, y.count(10));
        is("an hour", 1, y.hours(1));
        no("not behind the hour", y.undo());
        is("none", 0, y.count(10));
    }

    /** Promise 10. */
    private static void hours() {
        IceBridge x = Due.fjord("fjord 3 1;rock 1 0;frost 9;melt (hour-11)*(night=0)+9*(night=1)-(night=2);"
            + "pourer a west plain pails 11;pourer b east plain pails 3;");
        for (int i = 0; i < 11; i++) {
            yes("pour", x.pour(0, 0, 0));
        }
        yes("pour", x.pour(1, 2, 0));
        is("to noon", 12, x.hours(12));
        is("nothing melted", 0, x.count(7));
        is("12 melts by 1", 13, x.hours(1));
        is("by 1", 98, x.cell(0, 0, 0));
        is("melted", 2, x.count(7));
        is("to 16", 16, x.hours(3));
        is("by 2, 3, 4", 89, x.cell(0, 0, 0));
        is("as far as there is some", 0, x.cell(2, 0, 0));
        is("melted is what there was", 10 + 9, x.count(7));
        is("to the night", 24, x.hours(8));
        is("5 to 9, 9, 9, 9", 89 - 35 - 27, x.cell(0, 0, 0));
        is("hour", 0, x.count(4));
        is("night", 1, x.count(5));
        is("pails are full", 11, x.pourer(0, 2));
        is("to 15", 24 + 15, x.hours(15));
        is("by 27", 0, x.cell(0, 0, 0));
        is("to 15", 48 + 15, x.hours(24));
        x.hours(10);
        yes("pour", x.pour(0, 0, 0));
        is("long", 73 + 1000, x.hours(1000));
        is("melt below 0 is 0", 9, x.cell(0, 0, 0));
        is("0", NONE, x.hours(0));
        is("-1", NONE, x.hours(-1));
        is("1001", NONE, x.hours(1001));
        for (int wild : WILD) {
            is("wild", NONE, x.hours(wild));
        }
        is("stays", 1073 + 1, x.hours(1));
        IceBridge y = Due.fjord("fjord 2 1;salt 0 0;frost 8;melt 3+column;pourer a west plain pails 9;");
        y.pour(0, 0, 0);
        y.pour(0, 1, 0);
        y.hours(13);
        is("salt melts as all do", 4 - 3, y.cell(0, 0, 0));
        is("by place", 8 - 4, y.cell(1, 0, 0));
    }

    /** Promise 11. */
    private static void thin() {
        IceBridge x = iced(4, "");
        is("both", 4, x.thin(0));
        x.hours(2);
        x.pour(0, 0, 0);
        is("the least", 4, x.thin(0));
        is("rocks", 99, x.thin(1));
        is("row 2", NONE, x.thin(2));
        is("row -1", NONE, x.thin(-1));
        is("water", 0, new IceBridge().thin(0));
        is("rocks are left out", 4, thinBesideRock());
        for (int wild : WILD) {
            is("wild", NONE, x.thin(wild));
        }
    }

    private static int thinBesideRock() {
        IceBridge x = Due.fjord("fjord 3 1;rock 0 0;rock 2 0;frost 4;pourer a west plain pails 1;");
        yes("pour", x.pour(0, 1, 0));
        return x.thin(0);
    }

    /** Promise 12. */
    private static void until() {
        IceBridge x = iced(4, "load f foot heavy 3 worth 1;load g foot heavy 5 worth 1;load h foot heavy 1 worth 1;");
        is("until 13", 14, x.until(0, 0));
        is("not now", 0, x.until(1, 0));
        is("until 15", 16, x.until(2, 0));
        is("rocks", 24, x.until(1, 1));
        x.hours(13);
        is("this hour alone", 1, x.until(0, 0));
        yes("over", x.over(0, 0));
        is("whether over or not", 0, x.until(0, 0));
        is("thinner", 2, x.until(2, 0));
        IceBridge y = Due.fjord("fjord 2 1;frost 4;melt (night=1)*(hour=13)*9;load f foot heavy 4 worth 1;"
            + "pourer a west plain pails 9;");
        y.pour(0, 0, 0);
        y.pour(0, 1, 0);
        is("a day at most", 24, y.until(0, 0));
        y.hours(13);
        is("a day exactly", 24, y.until(0, 0));
        y.hours(1);
        is("into the next night", 24, y.until(0, 0));
        y.hours(1);
        is("up to its 13", 23, y.until(0, 0));
        is("nothing is done by asking", 4, y.thin(0));
        is("load 1", NONE, y.until(1, 0));
        is("load -1", NONE, y.until(-1, 0));
        is("row 1", NONE, y.until(0, 1));
        is("row -1", NONE, y.until(0, -1));
        for (int wild : WILD) {
            is("load wild", NONE, y.until(wild, 0));
            is("row wild", NONE, y.until(0, wild));
        }
    }

    private static void row(String call, int[] want, java.util.function.IntUnaryOperator got) {
        for (int what = 0; what < want.length; what++) {
            is(call + " " + what, want[what], got.applyAsInt(what));
        }
        is(call + " beyond", NONE, got.applyAsInt(want.length));
        is(call + " -1", NONE, got.applyAsInt(-1));
        for (int wild : WILD) {
            is(call + " wild", NONE, got.applyAsInt(wild));
        }
    }

    /** Promise 13. */
    private static void carried() {
        IceBridge a = iced(4, "load a foot heavy 4 worth 5;load b dance heavy 1 worth 5;load c hearse heavy 3 worth 0;");
        row("the heavy one first", new int[] {10, 3, 0, 1}, what -> a.carried(0, what));
        row("rocks bear all, but what is worth nothing stays", new int[] {10, 3, 0, 1}, what -> a.carried(1, what));
        IceBridge b = iced(4, "load a foot heavy 3 worth 5;load b foot heavy 4 worth 5;load c foot heavy 4 worth 10;");
        row("another order", new int[] {15, 5, 2, 0}, what -> b.carried(0, what));
        IceBridge c = iced(2, "load a dance heavy 2 worth 2;load b foot heavy 2 worth 1;load c foot heavy 1 worth 1;");
        row("of equal ones the fewest", new int[] {2, 1, 0}, what -> c.carried(0, what));
        IceBridge d = iced(9, "load a hearse heavy 3 worth 1;load b hearse heavy 3 worth 1;load c hearse heavy 9 worth 1;");
        row("the first row of numbers", new int[] {3, 7, 0, 1, 2}, what -> d.carried(0, what));
        IceBridge e = iced(3, "load a dance heavy 9 worth 9;load b dance heavy 3 worth 1;load c dance heavy 3 worth 1;");
        row("the first of equal ones", new int[] {1, 2, 1}, what -> e.carried(0, what));
        yes("over", e.over(1, 0));
        row("nothing", new int[] {0, 0}, what -> e.carried(0, what));
        row("not over yet", new int[] {10, 5, 0, 2}, what -> e.carried(1, what));
        is("worth nothing", 0, new IceBridge().carried(0, 0));
        for (int wild : WILD) {
            is("row wild", NONE, a.carried(wild, 0));
        }
        is("row 2", NONE, a.carried(2, 0));
        is("row -1", NONE, a.carried(-1, 0));
    }

    /** Promise 14. */
    private static void built() {
        IceBridge x = Due.fjord("fjord 3 3;rock 0 1;rock 1 1;rock 2 1;salt 1 0;frost 4*(row<2);pourer a west plain pails 1;");
        int[] thick = {0, 0, 0, 2, 4, 4, 4, 6, 8};
        int[] pails = {0, 0, 0, 3, 4, 4, 4, 7, 8};
        for (int p = 0; p < thick.length; p++) {
            is("built thickness " + p, thick[p], x.built(0, p, 0));
            is("built pails " + p, pails[p], x.built(0, p, 1));
        }
        is("rocks", 99, x.built(1, 0, 0));
        is("rocks take none", 0, x.built(1, 999, 1));
        is("no grip", 0, x.built(2, 999, 0));
        is("no grip, no pails", 0, x.built(2, 999, 1));
        is("99 at most", 99, x.built(0, 999, 0));
        is("for 99", 25 + 50 + 25, x.built(0, 999, 1));
        yes("pour", x.pour(0, 0, 0));
        is("those that are thicker stay", 4, x.built(0, 3, 0));
        is("and take none", 3, x.built(0, 3, 1));
        is("pails -1", NONE, x.built(0, -1, 0));
        is("pails 1000", NONE, x.built(0, 1000, 0));
        is("row 3", NONE, x.built(3, 1, 0));
        is("row -1", NONE, x.built(-1, 1, 0));
        is("what 2", NONE, x.built(0, 1, 2));
        is("what -1", NONE, x.built(0, 1, -1));
        for (int wild : WILD) {
            is("row wild", NONE, x.built(wild, 1, 0));
            is("pails wild", NONE, x.built(0, wild, 0));
            is("what wild", NONE, x.built(0, 1, wild));
        }
        is("nothing is built", 0, x.thin(0));
        x.hours(13);
        is("by day, too", 3, x.built(0, 3, 0));
        is("ten cells by 1", 99, Due.fjord("fjord 10 1;frost 1;").built(0, 990, 0));
        is("ten cells by 1, one pail less", 98, Due.fjord("fjord 10 1;frost 1;").built(0, 989, 0));
    }

    /** Promise 15. */
    private static void best() {
        IceBridge x = Due.fjord("fjord 2 3;frost 2+row*2;salt 0 2;");
        is("0: all alike", 0, x.best(0));
        is("1: all alike", 0, x.best(1));
        is("2: the greatest", 1, x.best(2));
        is("3: the greatest", 2, x.best(3));
        is("6: the greatest", 1, x.best(6));
        is("999: fewer pails", 1, x.best(999));
        IceBridge y = Due.fjord("fjord 2 3;frost 2+(row=2)*2;");
        is("the first of equal ones", 0, y.best(1));
        is("of equal ones that with fewer pails", 2, Due.fjord("fjord 2 3;frost 2+(row=2)*7;").best(999));
        is("fewer pails: 99 by 9", 2, y.best(120));
        is("rocks", 1, Due.fjord("fjord 2 3;rock 0 1;rock 1 1;").best(0));
        is("-1", NONE, x.best(-1));
        is("1000", NONE, x.best(1000));
        for (int wild : WILD) {
            is("wild", NONE, x.best(wild));
        }
    }

    /** Promise 16. */
    private static void half() {
        IceBridge x = Due.fjord("fjord 5 2;rock 1 0;rock 4 0;salt 3 1;frost 1;pourer a west plain pails 9;");
        is("west has the middle one", 2, x.half(0, 0));
        is("east the others", 1, x.half(1, 0));
        is("west of row 1", 3, x.half(0, 1));
        is("99 in all where it can't be", 99, x.half(1, 1));
        x.pour(0, 0, 0);
        is("ice is there", 1, x.half(0, 0));
        is("even west", 2, Due.fjord("fjord 4 1;").half(0, 0));
        is("even east", 2, Due.fjord("fjord 4 1;").half(1, 0));
        IceBridge y = Due.fjord("fjord 2 1;frost hour<1;pourer a west plain pails 9;");
        y.pour(0, 0, 0);
        y.hours(1);
        is("ice, no grip", 0, y.half(0, 0));
        is("no ice, no grip", 99, y.half(1, 0));
        is("side 2", NONE, x.half(2, 0));
        is("side -1", NONE, x.half(-1, 0));
        is("row 2", NONE, x.half(0, 2));
        is("row -1", NONE, x.half(0, -1));
        for (int wild : WILD) {
            is("side wild", NONE, x.half(wild, 0));
            is("row wild", NONE, x.half(0, wild));
        }
    }

    /** West pays 2, 1, 0 by itself, east 0, 1, 2. */
    private static IceBridge meeting() {
        IceBridge x = Due.fjord("fjord 4 3;rock 0 1;rock 0 2;rock 1 2;rock 3 1;rock 3 0;rock 2 0;");
        is("west 0", 2, x.half(0, 0));
        is("east 2", 2, x.half(1, 2));
        return x;
    }

    /** Promise 17. */
    private static void rests() {
        IceBridge x = meeting();
        is("misfit 0: how many", 1, x.rests(0, NONE));
        is("misfit 0: each its own", 8 * 2 + 0, x.rests(0, 0));
        is("misfit 0: beyond", NONE, x.rests(0, 1));
        is("misfit 1: none would pay less", 6, x.rests(1, NONE));
        int[] six = {0, 8, 9, 16, 17, 18};
        for (int i = 0; i < 6; i++) {
            is("misfit 1: " + i, six[i], x.rests(1, i));
        }
        is("misfit 2: how many", 3, x.rests(2, NONE));
        is("misfit 2: 1", 9, x.rests(2, 1));
        is("misfit 99: 2", 18, x.rests(99, 2));
        is("misfit 99: 3", NONE, x.rests(99, 3));
        is("misfit -1", NONE, x.rests(-1, NONE));
        is("misfit 100", NONE, x.rests(100, NONE));
        for (int wild : WILD) {
            is("misfit wild", NONE, x.rests(wild, 0));
            is("what wild", NONE, x.rests(0, wild));
        }
    }

    /** Promise 18. */
    private static void guess() {
        IceBridge x = meeting();
        is("west, all rows, no misfit", 2, x.guess(0, 7, 0, 0));
        is("it pays", 0, x.guess(0, 7, 0, 1));
        is("west sees row 0, misfit 2", 0, x.guess(0, 1, 2, 0));
        is("it pays", 2, x.guess(0, 1, 2, 1));
        is("of equal ones the first", 0, x.guess(0, 1, 1, 0));
        is("west sees rows 0 and 2, misfit 2", 1, x.guess(0, 5, 2, 0));
        is("it pays", 3, x.guess(0, 5, 2, 1));
        is("east sees row 2, misfit 0", 0, x.guess(1, 4, 0, 0));
        is("east sees row 2, misfit 99", 2, x.guess(1, 4, 99, 0));
        is("it pays", 2, x.guess(1, 4, 99, 1));
        is("side 2", NONE, x.guess(2, 1, 0, 0));
        is("side -1", NONE, x.guess(-1, 1, 0, 0));
        is("set 0", NONE, x.guess(0, 0, 0, 0));
        is("set 8", NONE, x.guess(0, 8, 0, 0));
        is("set -1", NONE, x.guess(0, -1, 0, 0));
        is("misfit -1", NONE, x.guess(0, 1, -1, 0));
        is("misfit 100", NONE, x.guess(0, 1, 100, 0));
        is("what 2", NONE, x.guess(0, 1, 0, 2));
        is("what -1", NONE, x.guess(0, 1, 0, -1));
        for (int wild : WILD) {
            is("side wild", NONE, x.guess(wild, 1, 0, 0));
            is("set wild", NONE, x.guess(0, wild, 0, 0));
            is("misfit wild", NONE, x.guess(0, 1, wild, 0));
            is("what wild", NONE, x.guess(0, 1, 0, wild));
        }
    }

    /** Promise 19. */
    private static void queue() {
        String loads = "load a horse heavy 2 worth 5;load b dance heavy 1 worth 6;load c foot heavy 3 worth 6;load d hearse heavy 1 worth 1;";
        IceBridge a = iced(4, loads);
        row("by worth", new int[] {7, 10, 1, 2, 0, 3}, what -> a.queue(0, what));
        row("rocks", new int[] {18, 15, 1, 2, 0, 3}, what -> a.queue(1, what));
        IceBridge b = iced(4, loads + "first heavy*10+wear;");
        row("by heavy, as it needs", new int[] {11, 3, 0, 2, 1, 3}, what -> b.queue(0, what));
        IceBridge c = iced(4, loads + "first 0-worth-(hour=1)*(wear=0)*9;");
        row("the least worth", new int[] {12, 11, 3, 0, 1, 2}, what -> c.queue(0, what));
        c.hours(1);
        row("by the hour", new int[] {11, 3, 0, 1, 2, 3}, what -> c.queue(0, what));
        yes("over", c.over(2, 0));
        row("not over yet", new int[] {11, 3, 0, 1, 3}, what -> c.queue(0, what));
        is("nothing goes by asking", 3, c.thin(0));
        IceBridge d = iced(1, loads + "first night;");
        row("of equal ones the first", new int[] {6, 2, 0, 1, 2, 3}, what -> d.queue(0, what));
        IceBridge e = iced(4, loads + "first (worth=5)*8192*8*4096*8;");
        row("ranks below 0 by wrapping", new int[] {7, 10, 1, 2, 3, 0}, what -> e.queue(0, what));
        row("no loads", new int[] {0, 0}, what -> new IceBridge().queue(0, what));
        is("row 2", NONE, a.queue(2, 0));
        is("row -1", NONE, a.queue(-1, 0));
        for (int wild : WILD) {
            is("row wild", NONE, a.queue(wild, 0));
        }
    }

    /** Promise 20. */
    private static void toll() {
        IceBridge x = full();
        is("water", THROWN, Due.toll(x, 0, 0));
        x.pour(0, 0, 0);
        x.pour(0, 2, 0);
        x.pour(0, 2, 0);
        x.pour(3, 3, 0);
        is("foot", 3, Due.toll(x, 0, 0));
        is("horse", 3, Due.toll(x, 1, 0));
        is("sledge", 3, Due.toll(x, 2, 0));
        is("a hearse that it does not bear", THROWN, Due.toll(x, 3, 0));
        is("dance", 4, Due.toll(x, 4, 0));
        is("nothing goes by asking", 4, x.thin(0));
        yes("over", x.over(4, 0));
        is("it is over", THROWN, Due.toll(x, 4, 0));
        is("no more than there was", 3, Due.toll(x, 2, 0));
        IceBridge y = Due.fjord("fjord 3 2;rock 0 1;rock 1 1;rock 2 1;frost (hour<1)+(hour=2)*column;"
            + "pourer a west plain pails 9;load d dance heavy 1 worth 1;load h hearse heavy 1 worth 1;");
        y.pour(0, 0, 0);
        y.pour(0, 1, 0);
        y.pour(0, 2, 0);
        y.pour(0, 2, 0);
        is("0 at least: 1 + 1 + 2", 4, Due.toll(y, 0, 0));
        y.hours(1);
        is("none can be", 99, Due.toll(y, 0, 0));
        is("nothing is worn", 0, Due.toll(y, 1, 0));
        y.hours(1);
        is("99 in all if one can't be", 99, Due.toll(y, 0, 0));
        is("rocks", 0, Due.toll(y, 0, 1));
        y.hours(10);
        is("by day: no grip", 99, Due.toll(y, 0, 0));
        is("load 2", THROWN, Due.toll(y, 2, 1));
        is("load -1", THROWN, Due.toll(y, -1, 1));
        is("row 2", THROWN, Due.toll(y, 0, 2));
        is("row -1", THROWN, Due.toll(y, 0, -1));
        for (int wild : WILD) {
            is("load wild", THROWN, Due.toll(y, wild, 1));
            is("row wild", THROWN, Due.toll(y, 0, wild));
        }
    }

    /** Promise 21. */
    private static void sound() {
        IceBridge x = Due.fjord("fjord 3 2;rock 1 0;current 8 at 2 1;frost 9;pourer a west smith pails 9;"
            + "sound thick*3+column*20+row-hour*(night+1)*2-current*0-(current=8)*8192*8*4096*8;");
        is("water", 0, x.sound(0, 0));
        is("row 1", 1, x.sound(0, 1));
        is("a rock", NONE, x.sound(1, 0));
        x.pour(0, 0, 0);
        x.pour(0, 0, 1);
        is("modulo 10", 0, x.sound(0, 0));
        x.hours(1);
        is("30 - 2", 8, x.sound(0, 0));
        is("not below 0", 9, x.sound(1, 1));
        // 40 + 1 - 2 - (-2147483648) wraps to -2147483609
        is("far below 0", 1, x.sound(2, 1));
        x.hours(24);
        is("0 - 4 on the next night", 6, x.sound(0, 0));
        is("without sound: thick", 9, thickSound());
        is("column 3", NONE, x.sound(3, 0));
        is("column -1", NONE, x.sound(-1, 0));
        is("row 2", NONE, x.sound(0, 2));
        is("row -1", NONE, x.sound(0, -1));
        for (int wild : WILD) {
            is("column wild", NONE, x.sound(wild, 0));
            is("row wild", NONE, x.sound(0, wild));
        }
    }

    private static int thickSound() {
        IceBridge x = Due.fjord("fjord 2 1;frost 9;pourer a west smith pails 9;pourer b west plain pails 9;");
        x.pour(0, 0, 0);
        x.pour(1, 0, 0);
        return x.sound(0, 0);
    }

    /** Promise 22. */
    private static void heard() {
        IceBridge x = Due.fjord("fjord 6 2;rock 2 0;rock 0 1;rock 1 1;rock 2 1;rock 3 1;rock 4 1;rock 5 1;"
            + "frost 9-column;sound (column=3)*7;pourer a west plain pails 99;");
        for (int column = 0; column < 6; column++) {
            Due.is("pour " + column, column != 2, x.pour(0, column, 0));
        }
        is("first", 0, x.heard(0, 0, 0));
        is("last", 5, x.heard(0, 0, 1));
        is("many", 4, x.heard(0, 0, 2));
        is("the thinnest", 5, x.heard(0, 0, 3));
        is("one alone: first", 3, x.heard(0, 7, 0));
        is("one alone: last", 3, x.heard(0, 7, 1));
        is("one alone: many", 1, x.heard(0, 7, 2));
        is("one alone: crack", 3, x.heard(0, 7, 3));
        is("none sounds so", NONE, x.heard(0, 1, 2));
        is("rocks do not sound", NONE, x.heard(1, 0, 2));
        IceBridge y = Due.fjord("fjord 4 1;frost 1+(column=2)*6;sound (column=2)*3;pourer a west plain pails 9;"
            + "pourer b east plain pails 9;");
        yes("pour", y.pour(0, 0, 0));
        yes("pour", y.pour(1, 3, 0));
        y.pour(0, 1, 0);
        is("of equal ones the first", 0, y.heard(0, 0, 3));
        is("one that sounds otherwise does not count", 0, y.heard(0, 0, 0));
        is("even if it is thinner", 0, y.thin(0));
        IceBridge z = Due.fjord("fjord 2 1;frost 9;sound 9;pourer a west plain pails 99;");
        for (int i = 0; i < 22; i++) {
            yes("pour", z.pour(0, i / 11, 0));
        }
        is("sound 9", 2, z.heard(0, 9, 2));
        is("as thick as can be", 0, z.heard(0, 9, 3));
        is("sound -1", NONE, x.heard(0, -1, 0));
        is("sound 10", NONE, x.heard(0, 10, 0));
        is("what 4", NONE, x.heard(0, 0, 4));
        is("what -1", NONE, x.heard(0, 0, -1));
        is("row 2", NONE, x.heard(2, 0, 0));
        is("row -1", NONE, x.heard(-1, 0, 0));
        for (int wild : WILD) {
            is("row wild", NONE, x.heard(wild, 0, 0));
            is("sound wild", NONE, x.heard(0, wild, 0));
            is("what wild", NONE, x.heard(0, 0, wild));
        }
    }

    /** Rows of 2 cells, a pail 2 fingers; with two pails 2 thick, with four 4. */
    private static IceBridge village() {
        return Due.fjord("fjord 2 2;pourer a west plain pails 1;pourer b east plain pails 1;pourer c west child pails 2;"
            + "load f foot heavy 2 worth 7;load h hearse heavy 4 worth 20;load w foot heavy 50 worth 90;");
    }

    /** Promise 23. */
    private static void value() {
        IceBridge x = village();
        int[] want = {0, 0, 0, 7, 7, 7, 7, 27};
        for (int set = 0; set < 8; set++) {
            is("value " + set, want[set], x.value(set));
        }
        is("value 8", NONE, x.value(8));
        is("value -1", NONE, x.value(-1));
        x.pour(0, 0, 0);
        x.pour(1, 1, 0);
        is("no pails: as the rows are", 7, x.value(0));
        is("no pails left: as the rows are", 7, x.value(3));
        is("what is there counts", 27, x.value(4));
        yes("over", x.over(0, 0));
        is("not over yet", 0, x.value(0));
        is("on another row, or thicker again", 0, x.value(4));
        is("rocks", 117, Due.fjord("fjord 2 2;rock 0 1;rock 1 1;load f foot heavy 2 worth 7;load h hearse heavy 4 worth 20;"
            + "load w foot heavy 50 worth 90;").value(0));
        for (int wild : WILD) {
            is("wild", NONE, x.value(wild));
        }
    }

    /** Promise 24. */
    private static void share() {
        IceBridge x = village();
        yes("999", x.share(0, 999));
        yes("0", x.share(1, 0));
        yes("5", x.share(2, 5));
        no("1000", x.share(0, 1000));
        no("-1", x.share(2, -1));
        no("pourer 3", x.share(3, 5));
        no("pourer -1", x.share(-1, 5));
        is("999", 999, x.pourer(0, 3));
        is("0", 0, x.pourer(1, 3));
        is("5", 5, x.pourer(2, 3));
        yes("again", x.share(0, 1));
        is("1", 1, x.pourer(0, 3));
        for (int wild : WILD) {
            no("pourer wild", x.share(wild, 5));
            no("worth wild", x.share(0, wild));
        }
    }

    /** Promise 25. */
    private static void leaves() {
        IceBridge x = village();
        is("a and b", 3, x.leaves());
        x.share(0, 4);
        x.share(1, 2);
        is("a and b still", 3, x.leaves());
        x.share(1, 3);
        is("c alone", 4, x.leaves());
        x.share(2, 7);
        is("all", 7, x.leaves());
        x.share(2, 19);
        is("all still", 7, x.leaves());
        x.share(2, 20);
        is("none", NONE, x.leaves());
        is("no pourers", NONE, Due.fjord("fjord 2 1;rock 0 0;rock 1 0;load a foot heavy 1 worth 5;").leaves());
        IceBridge y = village();
        y.share(0, 9);
        y.share(1, 9);
        y.share(2, 0);
        is("the set without pails", 4, y.leaves());
    }

    /** Promise 26. */
    private static void stump() {
        IceBridge x = full();
        yes("0", x.stump(0, 0, 0));
        yes("99", x.stump(3, 1, 99));
        no("100", x.stump(0, 0, 100));
        no("-2", x.stump(0, 0, -2));
        no("a rock", x.stump(1, 0, 3));
        no("a rock, nothing", x.stump(1, 0, NONE));
        is("told", 1, x.fits(0, 0, 0, 12, 0));
        yes("told anew", x.stump(0, 0, 3));
        is("by one pail", 1, x.fits(0, 0, 0, 12, 1));
        yes("nothing is told any more", x.stump(0, 0, NONE));
        is("nothing", NONE, x.fits(0, 0, 0, 12, 0));
        yes("nothing again", x.stump(0, 0, NONE));
        no("column 4", x.stump(4, 0, 3));
        no("column -1", x.stump(-1, 0, 3));
        no("row 2", x.stump(0, 2, 3));
        no("row -1", x.stump(0, -1, 3));
        is("nothing thicker by it", 0, x.count(9));
        for (int wild : WILD) {
            no("column wild", x.stump(wild, 0, 3));
            no("row wild", x.stump(0, wild, 3));
            no("thick wild", x.stump(0, 0, wild));
        }
    }

    /** Promise 27. */
    private static void fits() {
        IceBridge x = Due.fjord("fjord 4 1;rock 3 0;salt 1 0;current 1 at 2 0;frost 9-hour*(current=0)-night;melt 1+(hour=13)-current;"
            + "pourer a west smith pails 1;");
        x.stump(0, 0, 17);
        x.stump(1, 0, 15);
        x.stump(2, 0, 99);
        is("2 pails of 9, less 1", 2, x.fits(0, 0, 0, 12, 1));
        is("one number", 1, x.fits(0, 0, 0, 12, 0));
        is("behind 13: 17 + 3", NONE, x.fits(0, 0, 0, 13, 1));
        is("poured at 4: 5 a pail", 4, x.fits(0, 0, 4, 13, 1));
        is("poured at 7: 2 a pail", 9, x.fits(0, 0, 7, 12, 1));
        is("salt: 4 a pail", 4, x.fits(1, 0, 0, 12, 1));
        is("99 at most: 11 to 50", 40, x.fits(2, 0, 0, 12, 0));
        is("the least", 11, x.fits(2, 0, 11, 12, 1));
        is("99 less 1 is none", NONE, x.fits(2, 0, 0, 13, 0));
        x.stump(0, 0, 0);
        is("nothing left of 1 a pail: 0, 1", 2, x.fits(0, 0, 8, 12, 0));
        is("no grip: 0 to 50", 51, x.fits(0, 0, 9, 12, 0));
        is("no pails", 0, x.fits(0, 0, 9, 12, 1));
        is("nothing left by 23: 14 less of 1 each", 14, x.fits(0, 0, 8, 23, 0));
        x.stump(0, 0, 37);
        is("50 pails of 1, less 13", 50, x.fits(0, 0, 8, 23, 1));
        x.stump(0, 0, 38);
        is("51 pails are none", NONE, x.fits(0, 0, 8, 23, 1));
        is("a rock", NONE, x.fits(3, 0, 0, 12, 0));
        x.stump(0, 0, NONE);
        is("nothing is told", NONE, x.fits(0, 0, 0, 12, 0));
        x.stump(0, 0, 17);
        yes("a smith pours", x.pour(0, 0, 0));
        is("the ice that is there does not count", 2, x.fits(0, 0, 0, 12, 1));
        x.hours(29);
        is("by this night's frost: 8 a pail", NONE, x.fits(0, 0, 0, 12, 1));
        x.stump(0, 0, 15);
        is("16 less 1", 2, x.fits(0, 0, 0, 12, 1));
        wrongFits(x);
    }

    private static void wrongFits(IceBridge x) {
        x.stump(0, 0, 0);
        is("right", 1, x.fits(0, 0, 0, 12, 0));
        is("poured -1", NONE, x.fits(0, 0, -1, 12, 0));
        is("poured 12", NONE, x.fits(0, 0, 12, 12, 0));
        is("seen 11", NONE, x.fits(0, 0, 0, 11, 0));
        is("seen 24", NONE, x.fits(0, 0, 0, 24, 0));
        is("what 2", NONE, x.fits(0, 0, 0, 12, 2));
        is("what -1", NONE, x.fits(0, 0, 0, 12, -1));
        is("column 4", NONE, x.fits(4, 0, 0, 12, 0));
        is("column -1", NONE, x.fits(-1, 0, 0, 12, 0));
        is("row 1", NONE, x.fits(0, 1, 0, 12, 0));
        is("row -1", NONE, x.fits(0, -1, 0, 12, 0));
        for (int wild : WILD) {
            is("column wild", NONE, x.fits(wild, 0, 0, 12, 0));
            is("row wild", NONE, x.fits(0, wild, 0, 12, 0));
            is("poured wild", NONE, x.fits(0, 0, wild, 12, 0));
            is("seen wild", NONE, x.fits(0, 0, 0, wild, 0));
            is("what wild", NONE, x.fits(0, 0, 0, 12, wild));
        }
    }

    /** Promise 28. */
    private static void salted() {
        IceBridge x = Due.fjord("fjord 5 2;rock 4 0;salt 3 0;frost 6-hour;");
        is("nothing is told", 0, x.salted(0, 0, 12));
        x.stump(0, 0, 2);
        x.stump(1, 0, 5);
        x.stump(2, 0, 8);
        x.stump(3, 0, 4);
        is("3 less 1 and 9 less 1; salt itself never", 5, x.salted(0, 0, 12));
        is("behind 13: 3 + 2, 6 + 2", 0, x.salted(0, 0, 13) & 2);
        // at hour 2: 4 plainly, 2 by salt; behind 12 told + 1: 3, 6, 9
        is("poured at 2", 2, x.salted(0, 2, 12));
        is("the other row", 0, x.salted(1, 0, 12));
        x.stump(0, 0, NONE);
        is("no more told", 4, x.salted(0, 0, 12));
        is("row 2", NONE, x.salted(2, 0, 12));
        is("row -1", NONE, x.salted(-1, 0, 12));
        is("poured -1", NONE, x.salted(0, -1, 12));
        is("poured 12", NONE, x.salted(0, 12, 12));
        is("seen 11", NONE, x.salted(0, 0, 11));
        is("seen 24", NONE, x.salted(0, 0, 24));
        for (int wild : WILD) {
            is("row wild", NONE, x.salted(wild, 0, 12));
            is("poured wild", NONE, x.salted(0, wild, 12));
            is("seen wild", NONE, x.salted(0, 0, wild));
        }
    }

    /** Promise 29. */
    private static void winter() {
        String text = "fjord 2 2;frost 2+row*4;pourer a west plain pails 3;pourer b east child pails 4;"
            + "load f foot heavy 13 worth 1;load g foot heavy 18 worth 1;load h foot heavy 19 worth 1;";
        IceBridge x = Due.fjord(text);
        is("the greatest thickness", 18, Due.winter(x, 0, 60, NONE, 0));
        is("nothing melts by 11", 60, Due.winter(x, 0, 60, 1, 11));
        is("too thin", 0, Due.winter(x, 0, 60, 2, 0));
        is("behind 12", 0, Due.winter(x, 0, 60, 1, 12));
        is("behind 16", 7, Due.winter(x, 0, 7, 0, 16));
        is("behind 17", 0, Due.winter(x, 0, 7, 0, 17));
        x.pour(0, 0, 0);
        x.pour(0, 0, 0);
        x.hours(13);
        is("on water, with all pails", 18, Due.winter(x, 9999, 1, NONE, 23));
        is("nothing is done by it", 13, x.count(4));
        IceBridge mild = Due.fjord(text + "mild 10;");
        is("always mild: 3 a pail", 9, Due.winter(mild, 5, 60, NONE, 0));
        IceBridge some = Due.fjord(text + "mild 5;");
        is("draws", draws(77, 60, 5), 60 - Due.winter(some, 77, 60, 1, 0));
        is("the first draw of 0 is 0", 9, Due.winter(Due.fjord(text + "mild 1;"), 0, 1, NONE, 0));
        is("not below 0", 18, Due.winter(Due.fjord(text + "mild 0;"), 0, 1, NONE, 0));
        IceBridge nights = Due.fjord("fjord 2 1;frost 9-night;pourer a west plain pails 2;load f foot heavy 6 worth 1;");
        is("night by night: 9, 8, 7, 6", 4, Due.winter(nights, 0, 60, 0, 0));
        nights.hours(25);
        is("from this one on: 8, 7, 6", 3, Due.winter(nights, 0, 60, 0, 0));
        is("8", 8, Due.winter(nights, 0, 60, NONE, 0));
        IceBridge uneven = Due.fjord("fjord 2 1;frost 4+column*3;melt column*9*(hour=12);pourer a west plain pails 3;"
            + "load f foot heavy 5 worth 1;load g foot heavy 4 worth 1;");
        is("built to 7", 7, Due.winter(uneven, 0, 1, NONE, 0));
        is("the second cell is gone", 0, Due.winter(uneven, 0, 1, 1, 12));
        IceBridge pails = Due.fjord("fjord 2 1;frost 5+column*4;melt column*4*(hour=12);pourer a west plain pails 2;"
            + "load f foot heavy 5 worth 1;");
        is("a pail makes 9 where 5 is built", 1, Due.winter(pails, 0, 1, 0, 12));
        is("rocks", 99, Due.winter(Due.fjord("fjord 2 2;rock 0 1;rock 1 1;"), 0, 1, NONE, 0));
        wrongWinters(x);
    }

    private static int draws(long g, int nights, int mild) {
        int many = 0;
        for (int i = 0; i < nights; i++) {
            g = g * 1103515245L + 12345L & 0x7FFFFFFFL;
            many += (g >> 16) % 10 < mild ? 1 : 0;
        }
        return many;
    }

    private static void wrongWinters(IceBridge x) {
        is("right", 60, Due.winter(x, 9999, 60, 0, 0));
        is("seed -1", THROWN, Due.winter(x, -1, 1, 0, 0));
        is("seed 10000", THROWN, Due.winter(x, 10000, 1, 0, 0));
        is("no nights", THROWN, Due.winter(x, 0, 0, 0, 0));
        is("61 nights", THROWN, Due.winter(x, 0, 61, 0, 0));
        is("load 3", THROWN, Due.winter(x, 0, 1, 3, 0));
        is("load -2", THROWN, Due.winter(x, 0, 1, -2, 0));
        is("hour -1", THROWN, Due.winter(x, 0, 1, 0, -1));
        is("hour 24", THROWN, Due.winter(x, 0, 1, 0, 24));
        for (int wild : WILD) {
            is("seed wild", THROWN, Due.winter(x, wild, 1, 0, 0));
            is("nights wild", THROWN, Due.winter(x, 0, wild, 0, 0));
            is("load wild", THROWN, Due.winter(x, 0, 1, wild, 0));
            is("hour wild", THROWN, Due.winter(x, 0, 1, 0, wild));
        }
    }

    /** Promise 30. */
    private static void mark() {
        IceBridge x = full();
        for (int i = 0; i < 4; i++) {
            no("nothing is on it", x.mark(i, true));
        }
        x.pour(3, 3, 1);
        x.pour(0, 0, 0);
        x.share(0, 7);
        x.stump(0, 0, 3);
        yes("over rocks or not", x.mark(0, false));
        is("laying one undoes nothing", 2, x.count(10));
        yes("undo behind a mark", x.undo());
        x.hours(13);
        x.share(0, 8);
        x.stump(0, 0, NONE);
        yes("laid", x.mark(3, false));
        is("another fjord", 0, Due.read(x, "fjord 7 6;mild 4;"));
        yes("back", x.mark(0, true));
        int[] want = {4, 2, 4, 5, 0, 0, 9, 0, 0, 9, 0, 0, 0};
        for (int what = 0; what < want.length; what++) {
            is("gone back: count " + what, want[what], x.count(what));
        }
        no("nothing can be undone", x.undo());
        is("share", 7, x.pourer(0, 3));
        is("pails left", 5, x.pourer(0, 2));
        is("stump", 1, x.fits(0, 0, 0, 12, 1));
        is("grip", 4, x.cell(0, 0, 3));
        x.pour(0, 0, 0);
        yes("back again", x.mark(0, true));
        is("it stays on it", 4, x.cell(0, 0, 0));
        yes("the other", x.mark(3, true));
        is("hour", 13, x.count(4));
        is("melted", 4, x.count(7));
        is("share of the other", 8, x.pourer(0, 3));
        yes("laid anew", x.mark(0, false));
        x.hours(20);
        yes("back", x.mark(0, true));
        is("the new one", 13, x.count(4));
        no("-1", x.mark(-1, false));
        no("4", x.mark(4, false));
        no("-1 back", x.mark(-1, true));
        no("4 back", x.mark(4, true));
        no("1 back", x.mark(1, true));
        for (int wild : WILD) {
            no("wild", x.mark(wild, false));
            no("wild back", x.mark(wild, true));
        }
        markHoldsOver();
    }

    private static void markHoldsOver() {
        IceBridge x = iced(9, FIVE);
        yes("over", x.over(1, 0));
        yes("laid", x.mark(2, false));
        x.hours(24);
        is("not over", 0, x.load(1, 3));
        yes("back", x.mark(2, true));
        is("over again", 1, x.load(1, 3));
        is("worn", 4, x.count(8));
        is("thick", 7, x.thin(0));
    }

    /** Promise 31. */
    private static void count() {
        IceBridge x = Due.fjord("fjord 10 6;mild 7;frost 3;pourer a west plain pails 9;load f foot heavy 1 worth 1;rock 1 5;"
            + "load g horse heavy 1 worth 1;");
        x.hours(48);
        x.pour(0, 0, 5);
        x.pour(0, 2, 5);
        Due.feed(x, "mild 3;");
        int[] want = {10, 6, 1, 2, 0, 2, 6, 0, 0, 6, 2, 7, 7};
        for (int what = 0; what < want.length; what++) {
            is("count " + what, want[what], x.count(what));
        }
        x.hours(14);
        is("hour", 14, x.count(4));
        is("melted", 4, x.count(7));
        is("thick in all", 2, x.count(9));
        is("frozen stays", 6, x.count(6));
        is("13", NONE, x.count(13));
        is("-1", NONE, x.count(-1));
        for (int wild : WILD) {
            is("wild", NONE, x.count(wild));
        }
    }
}
