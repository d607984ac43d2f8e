/** Each sentence on THICK, GRIP, HOURS, pails, LOADS, what is UNDONE and MARKS that names a boundary, on both sides. */
public final class IceBoundsTest {
    private static final int NONE = IceBridge.NONE;
    private static final String SOME = "fjord 4 2;rock 1 0;salt 2 0;current 3 at 3 1;pourer ann west plain pails 6;"
        + "pourer bob east lover pails 4;pourer cat west child pails 2;pourer dan east smith pails 3;"
        + "load eve foot heavy 3 worth 5;load gus horse heavy 3 worth 9;load hal sledge heavy 1 worth 4;"
        + "load ian hearse heavy 5 worth 2;load joe dance heavy 2 worth 6;frost 4;melt 1+current;";
    /** An E and what it is between 0 and 9. */
    private static final String[] LAWS = {"0-9999*9999", "0-10", "0-1", "0", "1", "2", "7", "8", "9", "10", "11", "9999",
        "9999*9999", "8192*8*8192*4"};
    private static final int[] CUT = {0, 0, 0, 0, 1, 2, 7, 8, 9, 9, 9, 9, 9, 0};

    private IceBoundsTest() {
    }

    public static void main(String[] args) {
        ice();
        hoursOfTheDay();
        pails();
        loads();
        undoing();
        marks();
        questions();
        Due.end();
    }

    private static void is(String call, int want, int got) {
        Due.is(call, want, got);
    }

    private static void yes(String call, boolean got) {
        Due.yes(call, got);
    }

    private static void no(String call, boolean got) {
        Due.no(call, got);
    }

    private static void pours(IceBridge x, int times, int pourer, int column, int row) {
        for (int i = 0; i < times; i++) {
            yes("pail " + i + " by " + pourer + " on " + column + ", " + row, x.pour(pourer, column, row));
        }
    }

    // ---- THICK and GRIP

    private static void ice() {
        thickUpTo99();
        thickBeyond99();
        rocksHaveNoIce();
        gripFrom0To9();
        gripOnSalt();
        gripByDay();
    }

    /** THICK is the ice on a CELL in fingers, 0 to 99. */
    private static void thickUpTo99() {
        IceBridge x = Due.fjord("fjord 2 1;frost 9-8*(hour=1);pourer a west plain pails 99;");
        is("none at first", 0, x.cell(0, 0, 0));
        pours(x, 10, 0, 0, 0);
        is("90", 90, x.cell(0, 0, 0));
        x.hours(1);
        pours(x, 8, 0, 0, 0);
        is("98", 98, x.cell(0, 0, 0));
        pours(x, 1, 0, 0, 0);
        is("99", 99, x.cell(0, 0, 0));
        is("frozen 99", 99, x.count(6));
        pours(x, 1, 0, 0, 0);
        is("99 at most", 99, x.cell(0, 0, 0));
        is("frozen no more", 99, x.count(6));
        is("the pail is gone", 99 - 20, x.pourer(0, 2));
    }

    private static void thickBeyond99() {
        IceBridge x = Due.fjord("fjord 2 1;frost 9-8*(hour=1);pourer a west plain pails 99;pourer b west smith pails 9;");
        pours(x, 11, 0, 0, 0);
        is("90 and 9", 99, x.cell(0, 0, 0));
        is("frozen 99", 99, x.count(6));
        pours(x, 10, 0, 1, 0);
        x.hours(1);
        pours(x, 1, 0, 1, 0);
        x.hours(1);
        pours(x, 1, 0, 1, 0);
        is("91 and 9", 99, x.cell(1, 0, 0));
        is("8 froze of 9", 99 + 99, x.count(6));
        pours(x, 1, 1, 1, 0);
        is("a smith's, too", 99, x.cell(1, 0, 0));
        is("nothing froze", 99 + 99, x.count(6));
    }

    /** Rocks have none and always bear. */
    private static void rocksHaveNoIce() {
        IceBridge x = Due.fjord("fjord 3 2;rock 1 0;rock 0 1;rock 1 1;rock 2 1;frost 3;pourer a west plain pails 9;"
            + "pourer b east plain pails 9;load f foot heavy 3 worth 1;load g foot heavy 4 worth 1;load h horse heavy 50 worth 1;");
        no("no pail on a rock", x.pour(0, 1, 0));
        is("no ice", 0, x.cell(1, 0, 0));
        no("water does not bear", x.over(0, 0));
        pours(x, 1, 0, 0, 0);
        no("water beside rocks does not bear", x.over(0, 0));
        pours(x, 1, 1, 2, 0);
        yes("3 fingers and a rock bear 3", x.over(0, 0));
        is("no ice on it", 0, x.cell(1, 0, 0));
        is("worn beside it alone", 2, x.count(8));
        no("but not 4", x.over(1, 0));
        yes("rocks bear 51", x.over(2, 1));
        x.hours(24);
        is("rocks don't melt", 4, x.count(7));
    }

    /** GRIP of a CELL: E of frost (0 below it, 9 above). */
    private static void gripFrom0To9() {
        for (int i = 0; i < LAWS.length; i++) {
            IceBridge x = Due.fjord("fjord 2 1;frost " + LAWS[i] + ";pourer a west plain pails 9;");
            is("grip by " + LAWS[i], CUT[i], x.cell(0, 0, 3));
            pours(x, 1, 0, 0, 0);
            is("thick by " + LAWS[i], CUT[i], x.cell(0, 0, 0));
        }
    }

    /** Where salt is half of that, cut: of what is between 0 and 9. */
    private static void gripOnSalt() {
        for (int i = 0; i < LAWS.length; i++) {
            IceBridge x = Due.fjord("fjord 2 1;salt 0 0;frost " + LAWS[i] + ";pourer a west plain pails 9;pourer b east plain pails 9;");
            is("grip on salt by " + LAWS[i], CUT[i] / 2, x.cell(0, 0, 3));
            is("beside salt", CUT[i], x.cell(1, 0, 3));
            pours(x, 1, 0, 0, 0);
            is("thick on salt by " + LAWS[i], CUT[i] / 2, x.cell(0, 0, 0));
            pours(x, 1, 1, 1, 0);
            is("thick beside salt", CUT[i], x.cell(1, 0, 0));
        }
    }

    /** GRIP now: by the HOUR, by day, too. */
    private static void gripByDay() {
        IceBridge x = Due.fjord("fjord 2 1;frost 9-(hour=12)-2*(hour=23)-3*(night=1);");
        is("at 0", 9, x.cell(0, 0, 3));
        x.hours(11);
        is("at 11", 9, x.cell(0, 0, 3));
        x.hours(1);
        is("at 12", 8, x.cell(0, 0, 3));
        x.hours(11);
        is("at 23", 7, x.cell(0, 0, 3));
        x.hours(1);
        is("the next night", 6, x.cell(0, 0, 3));
    }

    // ---- HOURS

    private static void hoursOfTheDay() {
        nightIs0To11();
        meltsFrom12To23();
        meltsFrom0To9();
        meltsWhatThereIs();
        nightsBegin();
        hoursFrom1To1000();
    }

    /** HOURS 0 to 11 are the night: a pail is POURED by night. */
    private static void nightIs0To11() {
        IceBridge x = Due.fjord("fjord 2 1;pourer a west plain pails 99;");
        for (int hour = 0; hour < 50; hour++) {
            Due.is("pour at hour " + hour, hour % 24 <= 11, x.pour(0, 0, 0));
            is("hour", hour % 24, x.count(4));
            is("night", hour / 24, x.count(5));
            is("counted", hour + 1, x.hours(1));
        }
    }

    /** In each HOUR from 12 to 23 the ice melts by the E of melt of that HOUR; in no other. */
    private static void meltsFrom12To23() {
        for (int melting = 0; melting < 24; melting++) {
            IceBridge x = Due.fjord("fjord 2 1;frost 9;melt 4*(hour=" + melting + ");pourer a west plain pails 9;");
            pours(x, 1, 0, 0, 0);
            for (int hour = 0; hour < 24; hour++) {
                boolean gone = hour > melting && melting >= 12;
                is("at " + hour + " of what melts in " + melting, gone ? 5 : 9, x.cell(0, 0, 0));
                is("melted", gone ? 4 : 0, x.count(7));
                x.hours(1);
            }
            is("at 24 of what melts in " + melting, melting >= 12 ? 5 : 9, x.cell(0, 0, 0));
        }
        IceBridge y = Due.fjord("fjord 2 1;frost 9;melt (night=1)*(hour=23)*3+(night=2)*9;pourer a west plain pails 9;");
        pours(y, 1, 0, 0, 0);
        y.hours(24 + 23);
        is("the day is of the night ahead of it", 9, y.cell(0, 0, 0));
        y.hours(1);
        is("up to its last hour", 6, y.cell(0, 0, 0));
        y.hours(12);
        is("not by night", 6, y.cell(0, 0, 0));
    }

    /** 0 to 9, likewise; salt or not. */
    private static void meltsFrom0To9() {
        for (int i = 0; i < LAWS.length; i++) {
            IceBridge x = Due.fjord("fjord 2 1;salt 1 0;frost 9;melt " + LAWS[i] + ";pourer a west plain pails 9;"
                + "pourer b east plain pails 9;");
            pours(x, 2, 0, 0, 0);
            pours(x, 5, 1, 1, 0);
            x.hours(12);
            is("not yet", 38, x.count(9));
            x.hours(1);
            is("melt by " + LAWS[i], 18 - CUT[i], x.cell(0, 0, 0));
            is("salt melts as much", 20 - CUT[i], x.cell(1, 0, 0));
            is("melted", 2 * CUT[i], x.count(7));
        }
    }

    /** As far as there is some. */
    private static void meltsWhatThereIs() {
        for (int melt = 4; melt <= 6; melt++) {
            IceBridge x = Due.fjord("fjord 2 1;frost 5;melt " + melt + ";pourer a west plain pails 9;");
            pours(x, 1, 0, 0, 0);
            x.hours(13);
            is("5 less " + melt, melt == 4 ? 1 : 0, x.cell(0, 0, 0));
            is("melted by " + melt, Math.min(5, melt), x.count(7));
            x.hours(11);
            is("none is left", 0, x.cell(0, 0, 0));
            is("melted in all", 5, x.count(7));
            is("none below 0", 0, x.cell(1, 0, 0));
        }
    }

    /** Then HOUR 0 of the next NIGHT comes: all pails are full, no load is over. */
    private static void nightsBegin() {
        IceBridge x = Due.fjord("fjord 2 2;rock 0 1;rock 1 1;frost 9;pourer a west plain pails 2;pourer b east smith pails 1;"
            + "load f foot heavy 1 worth 1;load g dance heavy 1 worth 1;");
        pours(x, 2, 0, 0, 0);
        pours(x, 1, 1, 1, 0);
        yes("over", x.over(0, 1));
        x.share(0, 7);
        x.stump(0, 0, 3);
        is("to 23", 23, x.hours(23));
        yes("over by day", x.over(1, 1));
        is("no pails at 23", 0, x.pourer(0, 2) + x.pourer(1, 2));
        is("over at 23", 2, x.load(0, 3) + x.load(1, 3));
        is("frozen", 28, x.count(6));
        is("to 24", 24, x.hours(1));
        is("hour 0", 0, x.count(4));
        is("night 1", 1, x.count(5));
        is("full", 2, x.pourer(0, 2));
        is("all", 1, x.pourer(1, 2));
        is("none over", 0, x.load(0, 3) + x.load(1, 3));
        is("what froze stays", 28, x.count(6));
        is("shares stay", 7, x.pourer(0, 3));
        is("stumps stay", 0, x.salted(0, 0, 12) & 2);
        is("no more than full", 48, x.hours(24));
        is("full again", 2, x.pourer(0, 2));
    }

    /** So many HOURS (1 to 1,000): HOUR + 24 * NIGHT then. */
    private static void hoursFrom1To1000() {
        IceBridge x = Due.fjord("fjord 2 1;");
        is("0", NONE, x.hours(0));
        is("none passed", 0, x.count(4) + x.count(5));
        is("1", 1, x.hours(1));
        is("1000", 1001, x.hours(1000));
        is("hour", 1001 % 24, x.count(4));
        is("night", 1001 / 24, x.count(5));
        is("1001", NONE, x.hours(1001));
        is("stays", 1001, x.count(4) + 24 * x.count(5));
        is("22", 1023, x.hours(22));
        is("and 1", 1024, x.hours(1));
        IceBridge y = new IceBridge();
        Due.ends("hours", 1, 1000, y::hours);
        is("what can't be passes none", 1002, y.hours(1));
    }

    // ---- pails

    private static void pails() {
        oneIsLeft();
        allAheadAreFirm();
        aheadFromTheEast();
        loversOnWater();
        childrenOnTheFirstThree();
        smithsByOneMore();
        argumentsOfPour();
    }

    /** By a POURER who has one left. */
    private static void oneIsLeft() {
        IceBridge x = Due.fjord("fjord 2 1;frost 1;pourer a west plain pails 0;pourer b west plain pails 1;pourer c east plain pails 99;");
        no("0 pails", x.pour(0, 0, 0));
        yes("the last one", x.pour(1, 0, 0));
        is("none left", 0, x.pourer(1, 2));
        no("none left", x.pour(1, 0, 0));
        is("none below 0", 0, x.pourer(1, 2));
        pours(x, 99, 2, 1, 0);
        no("not the 100th", x.pour(2, 1, 0));
        is("thick by each", 99, x.cell(1, 0, 0));
        x.hours(24);
        no("0 the next night, too", x.pour(0, 0, 0));
        yes("1 the next night", x.pour(1, 0, 0));
    }

    /** To which all CELLS from his shore on, ahead of it in its row, are rocks or have ice. */
    private static void allAheadAreFirm() {
        IceBridge x = Due.fjord("fjord 5 2;rock 1 0;rock 2 0;frost 1*(row=0)*(hour=0);pourer a west plain pails 99;pourer b west smith pails 9;");
        no("water ahead", x.pour(0, 3, 0));
        no("far ahead", x.pour(0, 4, 0));
        yes("none is ahead of the first", x.pour(0, 0, 0));
        no("a rock itself", x.pour(0, 1, 0));
        yes("1 finger and rocks ahead", x.pour(0, 3, 0));
        yes("all ahead", x.pour(0, 4, 0));
        yes("what is behind does not matter", x.pour(0, 0, 0));
        no("ice of another row", x.pour(0, 1, 1));
        yes("without grip", x.pour(0, 0, 1));
        no("no ice came of it", x.pour(0, 1, 1));
        x.hours(1);
        yes("a smith's finger", x.pour(1, 0, 1));
        yes("is enough", x.pour(0, 1, 1));
        no("but none came of that", x.pour(0, 2, 1));
    }

    private static void aheadFromTheEast() {
        IceBridge x = Due.fjord("fjord 5 2;rock 3 0;frost 1;pourer a east plain pails 99;pourer b west plain pails 9;");
        no("water ahead", x.pour(0, 2, 0));
        no("the other shore", x.pour(0, 0, 0));
        yes("the first", x.pour(0, 4, 0));
        yes("1 finger and a rock ahead", x.pour(0, 2, 0));
        yes("on", x.pour(0, 1, 0));
        yes("and on", x.pour(0, 0, 0));
        yes("west by its own shore", x.pour(1, 0, 1));
        no("which is not ahead of the east", x.pour(0, 1, 1));
        no("nor is the second", x.pour(0, 3, 1));
        yes("the shore", x.pour(0, 4, 1));
        yes("the second then", x.pour(0, 3, 1));
    }

    /** A lover pours only on a CELL without ice. */
    private static void loversOnWater() {
        IceBridge x = Due.fjord("fjord 3 1;frost (hour<1)+(hour=2);pourer a west lover pails 9;pourer b west plain pails 9;");
        yes("water", x.pour(0, 0, 0));
        is("1 finger", 1, x.cell(0, 0, 0));
        no("on 1 finger", x.pour(0, 0, 0));
        yes("others do", x.pour(1, 0, 0));
        yes("the next", x.pour(0, 1, 0));
        no("again not", x.pour(0, 1, 0));
        x.hours(1);
        yes("without grip", x.pour(0, 2, 0));
        yes("and again, still water", x.pour(0, 2, 0));
        x.hours(1);
        yes("with grip", x.pour(0, 2, 0));
        no("no more", x.pour(0, 2, 0));
        x.hours(22);
        is("gone by noon", 0, x.count(9));
        yes("water again", x.pour(0, 0, 0));
    }

    /** A child only on the first three CELLS from its shore. */
    private static void childrenOnTheFirstThree() {
        for (int columns = 2; columns <= 10; columns++) {
            IceBridge x = Due.fjord("fjord " + columns + " 2;pourer a west plain pails 99;pourer b west child pails 99;"
                + "pourer c east plain pails 99;pourer d east child pails 99;");
            for (int i = 0; i < columns; i++) {
                yes("a west plain one", x.pour(0, i, 0));
                Due.is("a west child on " + i + " of " + columns, i < 3, x.pour(1, i, 0));
                yes("an east plain one", x.pour(2, columns - 1 - i, 1));
                Due.is("an east child on its " + i + " of " + columns, i < 3, x.pour(3, columns - 1 - i, 1));
            }
        }
        IceBridge y = Due.fjord("fjord 5 1;rock 0 0;rock 1 0;pourer b west child pails 9;");
        yes("rocks count among the three", y.pour(0, 2, 0));
        no("so that this is the fourth", y.pour(0, 3, 0));
    }

    /** It is thicker by GRIP then (a smith's by 1 more). */
    private static void smithsByOneMore() {
        int[] grips = {0, 1, 8, 9};
        for (int grip : grips) {
            IceBridge x = Due.fjord("fjord 2 1;salt 1 0;frost " + grip + ";pourer a west smith pails 9;pourer b east smith pails 9;");
            pours(x, 1, 0, 0, 0);
            is("a smith's by " + grip, grip + 1, x.cell(0, 0, 0));
            pours(x, 1, 1, 1, 0);
            is("on salt", grip / 2 + 1, x.cell(1, 0, 0));
            is("frozen", grip + 1 + grip / 2 + 1, x.count(6));
            is("grip is that of all", grip, x.cell(0, 0, 3));
        }
    }

    private static void argumentsOfPour() {
        IceBridge x = Due.fjord("fjord 10 6;pourer a west plain pails 99;pourer b east plain pails 99;");
        Due.ends("pourer", 0, 1, p -> Due.orNone(x.pour(p, p == 0 ? 0 : 9, 0)));
        Due.ends("row", 0, 5, row -> Due.orNone(x.pour(0, 0, row)));
        IceBridge y = Due.fjord("fjord 2 1;pourer a west plain pails 99;");
        pours(y, 1, 0, 0, 0);
        Due.ends("column", 0, 1, column -> Due.orNone(y.pour(0, column, 0)));
        Due.ends("the only pourer", 0, 0, p -> Due.orNone(y.pour(p, 0, 0)));
        Due.ends("the only row", 0, 0, row -> Due.orNone(y.pour(0, 0, row)));
        no("no pourer at all", new IceBridge().pour(0, 0, 0));
    }

    // ---- LOADS

    private static void loads() {
        whatLoadsNeed();
        rowsThatBear();
        wear();
        wearOfTenCells();
        onceBetweenNoons();
        sumsSinceTheFjord();
        argumentsOfOver();
    }

    /** A LOAD needs its heavy; a horse 1 more; a sledge 1 less, 1 at least. */
    private static void whatLoadsNeed() {
        String[] kinds = {"foot", "horse", "sledge", "hearse", "dance"};
        for (int kind = 0; kind < 5; kind++) {
            for (int heavy : new int[] {1, 2, 3, 49, 50}) {
                IceBridge x = Due.fjord("fjord 2 1;load a " + kinds[kind] + " heavy " + heavy + " worth 1;");
                int needs = kind == 1 ? heavy + 1 : kind == 2 ? Math.max(1, heavy - 1) : heavy;
                is(kinds[kind] + " of " + heavy, needs, x.load(0, 1));
                is("kind", kind, x.load(0, 0));
            }
        }
        is("sledge 1", 1, Due.fjord("fjord 2 1;load a sledge heavy 1 worth 1;").load(0, 1));
        is("sledge 2", 1, Due.fjord("fjord 2 1;load a sledge heavy 2 worth 1;").load(0, 1));
        is("sledge 3", 2, Due.fjord("fjord 2 1;load a sledge heavy 3 worth 1;").load(0, 1));
    }

    /** A row BEARS it if each CELL is a rock or at least so THICK. */
    private static void rowsThatBear() {
        for (int thin = 0; thin < 4; thin++) {
            IceBridge x = Due.fjord("fjord 4 1;rock 2 0;frost 5-(column=" + thin + ");pourer a west plain pails 9;"
                + "load f foot heavy 4 worth 1;load g foot heavy 5 worth 1;load h hearse heavy 4 worth 1;");
            no("water", x.over(0, 0));
            pours(x, 1, 0, 0, 0);
            pours(x, 1, 0, 1, 0);
            no("water on the other shore", x.over(2, 0));
            pours(x, 1, 0, 3, 0);
            yes("as thick", x.over(2, 0));
            Due.is("each, not but " + thin, thin == 2, x.over(1, 0));
            is("until", 13, x.until(0, 0));
        }
    }

    /** Going OVER it makes each CELL that is no rock thinner by its WEAR (0 at least). */
    private static void wear() {
        String[] kinds = {"foot", "horse", "sledge", "hearse", "dance"};
        int[] wears = {1, 2, 1, 0, 3};
        for (int kind = 0; kind < 5; kind++) {
            for (int frost = kind == 1 ? 2 : 1; frost <= 4; frost++) {
                IceBridge x = Due.fjord("fjord 3 2;rock 1 0;frost " + frost + ";pourer a west plain pails 9;load f " + kinds[kind]
                    + " heavy 1 worth 1;");
                pours(x, 1, 0, 0, 0);
                pours(x, 1, 0, 2, 0);
                pours(x, 1, 0, 0, 1);
                yes(kinds[kind] + " over " + frost, x.over(0, 0));
                int left = Math.max(0, frost - wears[kind]);
                is("first", left, x.cell(0, 0, 0));
                is("last", left, x.cell(2, 0, 0));
                is("a rock has none", 0, x.cell(1, 0, 0));
                is("another row is not worn", frost, x.cell(0, 1, 0));
                is("worn", 2 * (frost - left), x.count(8));
            }
        }
    }

    /** Each CELL of its row, and none of another one. */
    private static void wearOfTenCells() {
        IceBridge x = Due.fjord("fjord 10 6;frost 3;pourer a west plain pails 99;load f horse heavy 1 worth 1;load g foot heavy 1 worth 1;");
        for (int i = 0; i < 20; i++) {
            pours(x, 1, 0, i % 10, 4 + i / 10);
        }
        yes("over row 4", x.over(0, 4));
        is("worn 2 on ten", 20, x.count(8));
        is("row 4", 1, x.thin(4));
        is("row 5", 3, x.thin(5));
        yes("over row 5", x.over(1, 5));
        is("worn 1 on ten", 30, x.count(8));
        for (int column = 0; column < 10; column++) {
            is("row 4, column " + column, 1, x.cell(column, 4, 0));
            is("row 5, column " + column, 2, x.cell(column, 5, 0));
        }
        yes("undone", x.undo());
        yes("undone", x.undo());
        is("as it was", 60, x.count(9));
    }

    /** Each LOAD once between two noons (HOUR 0 begins anew). */
    private static void onceBetweenNoons() {
        IceBridge x = Due.fjord("fjord 2 1;rock 0 0;rock 1 0;load f foot heavy 1 worth 1;load g foot heavy 1 worth 1;");
        yes("at 0", x.over(0, 0));
        for (int hour = 0; hour < 24; hour++) {
            no("over at " + hour, x.over(0, 0));
            is("over", 1, x.load(0, 3));
            x.hours(1);
        }
        is("hour 0", 0, x.load(0, 3));
        yes("begins anew", x.over(0, 0));
        x.hours(23);
        yes("the other at 23", x.over(1, 0));
        no("once", x.over(1, 0));
        x.hours(1);
        yes("at 0 again", x.over(1, 0));
        no("once", x.over(1, 0));
        x.hours(13);
        no("noon begins nothing", x.over(1, 0));
    }

    /** FROZEN, MELTED, WORN: fingers in all since the FJORD was told. */
    private static void sumsSinceTheFjord() {
        String text = "fjord 2 1;frost 3;melt 2*(hour=12);pourer a west plain pails 9;load f foot heavy 1 worth 1;";
        IceBridge x = Due.fjord(text);
        for (int night = 1; night <= 3; night++) {
            pours(x, 2, 0, 0, 0);
            pours(x, 2, 0, 1, 0);
            yes("over", x.over(0, 0));
            x.hours(24);
            is("frozen", 12 * night, x.count(6));
            is("worn", 2 * night, x.count(8));
            is("melted", 4 * night, x.count(7));
            is("thick", 6 * night, x.count(9));
        }
        is("a fault", 1 + 16 * 10, Due.read(x, "fjord 2 1;#"));
        is("stays", 36 + 12 + 6, x.count(6) + x.count(7) + x.count(8));
        is("told anew", 0, Due.read(x, text));
        is("begins anew", 0, x.count(6) + x.count(7) + x.count(8));
    }

    private static void argumentsOfOver() {
        StringBuilder text = new StringBuilder("fjord 2 6;");
        for (int row = 0; row < 6; row++) {
            text.append("rock 0 ").append(row).append(";rock 1 ").append(row).append(';');
        }
        for (char c = 'a'; c < 'h'; c++) {
            text.append("load ").append(c).append(" foot heavy 1 worth 1;");
        }
        IceBridge x = Due.fjord(text.toString());
        Due.ends("load", 0, 6, load -> Due.orNone(x.over(load, 0)));
        x.hours(24);
        Due.ends("row", 0, 5, row -> Due.orNone(x.over(row == 0 ? 1 : 2, row)));
        no("no load at all", Due.fjord("fjord 2 1;rock 0 0;rock 1 0;").over(0, 0));
    }

    // ---- what is UNDONE, promise 9

    private static void undoing() {
        theLast20();
        theLast20OfBoth();
        sinceTheHourBegan();
        whatCantBeIsNotKept();
        undoneInAll();
    }

    /** By hand pails and loads can be UNDONE, the last 20. */
    private static void theLast20() {
        for (int many : new int[] {0, 1, 19, 20, 21, 40, 41, 99}) {
            IceBridge x = Due.fjord("fjord 2 1;frost 1;pourer a west plain pails 99;");
            pours(x, many, 0, 0, 0);
            int undone = Math.min(20, many);
            is("what can be of " + many, undone, x.count(10));
            for (int i = 1; i <= undone; i++) {
                yes("undo " + i + " of " + many, x.undo());
                is("thick", many - i, x.cell(0, 0, 0));
                is("left", 99 - many + i, x.pourer(0, 2));
                is("frozen", many - i, x.count(6));
                is("what can be", undone - i, x.count(10));
            }
            no("nothing more of " + many, x.undo());
            is("stays", many - undone, x.cell(0, 0, 0));
        }
    }

    private static void theLast20OfBoth() {
        IceBridge x = Due.fjord("fjord 2 2;frost 9;pourer a west plain pails 99;pourer b east smith pails 99;"
            + "load f foot heavy 1 worth 1;load g horse heavy 1 worth 1;load h dance heavy 1 worth 1;");
        pours(x, 10, 0, 0, 0);
        pours(x, 2, 1, 1, 0);
        yes("over", x.over(1, 0));
        pours(x, 17, 0, 0, 1);
        yes("water on the second", x.pour(1, 1, 1));
        yes("over", x.over(2, 1));
        is("20", 20, x.count(10));
        yes("the load", x.undo());
        is("not over", 0, x.load(2, 3));
        is("99 again", 99, x.cell(0, 1, 0));
        is("worn by the other", 4, x.count(8));
        for (int i = 0; i < 18; i++) {
            yes("a pail", x.undo());
        }
        is("row 1 is water", 0, x.cell(0, 1, 0) + x.cell(1, 1, 0));
        yes("the other load", x.undo());
        is("not over", 0, x.load(1, 3));
        is("unworn", 0, x.count(8));
        is("row 0 as it was", 90 + 20, x.count(9));
        no("the first 12 stay", x.undo());
        is("pails left", 89, x.pourer(0, 2));
        is("of the other", 97, x.pourer(1, 2));
        yes("done anew", x.over(1, 0));
        is("one", 1, x.count(10));
    }

    /** Since the HOUR began. */
    private static void sinceTheHourBegan() {
        IceBridge x = Due.fjord("fjord 2 1;frost 1;pourer a west plain pails 99;");
        pours(x, 3, 0, 0, 0);
        x.hours(1);
        is("none", 0, x.count(10));
        no("an hour has begun", x.undo());
        is("stays", 3, x.cell(0, 0, 0));
        pours(x, 2, 0, 0, 0);
        is("two since", 2, x.count(10));
        yes("second", x.undo());
        yes("first", x.undo());
        no("no more", x.undo());
        is("three stay", 3, x.cell(0, 0, 0));
        pours(x, 1, 0, 0, 0);
        is("none passes", NONE, x.hours(0));
        is("none passes", NONE, x.hours(1001));
        is("still one", 1, x.count(10));
        yes("undone", x.undo());
    }

    private static void whatCantBeIsNotKept() {
        IceBridge x = Due.fjord("fjord 2 1;frost 1;pourer a west plain pails 2;load f foot heavy 2 worth 1;");
        pours(x, 1, 0, 0, 0);
        no("can't be poured", x.pour(0, 2, 0));
        no("can't go over", x.over(0, 0));
        x.share(0, 5);
        x.stump(0, 0, 5);
        x.mark(0, false);
        is("one", 1, x.count(10));
        yes("undone", x.undo());
        is("water", 0, x.cell(0, 0, 0));
        is("the share stays", 5, x.pourer(0, 3));
        is("the stump stays", 1, x.fits(0, 0, 0, 12, 0));
        no("nothing", x.undo());
        no("nothing again", x.undo());
        no("nothing at first", new IceBridge().undo());
    }

    /** A pail that made it 99, a dance on 1 finger: it is undone as it was. */
    private static void undoneInAll() {
        IceBridge x = Due.fjord("fjord 2 1;frost 9-8*(hour=2);pourer a west plain pails 99;pourer b east plain pails 99;"
            + "load d dance heavy 1 worth 1;");
        pours(x, 10, 0, 0, 0);
        pours(x, 1, 0, 1, 0);
        x.hours(1);
        pours(x, 2, 0, 0, 0);
        is("99", 99, x.cell(0, 0, 0));
        yes("undone", x.undo());
        is("that added nothing", 99, x.cell(0, 0, 0));
        yes("undone", x.undo());
        is("by 9", 90, x.cell(0, 0, 0));
        is("frozen", 99, x.count(6));
        IceBridge y = Due.fjord("fjord 3 1;frost 1+column;pourer a west plain pails 9;load d dance heavy 1 worth 1;");
        for (int column = 0; column < 3; column++) {
            pours(y, 1, 0, column, 0);
        }
        yes("over", y.over(0, 0));
        is("worn", 6, y.count(8));
        yes("undone", y.undo());
        for (int column = 0; column < 3; column++) {
            is("as it was", 1 + column, y.cell(column, 0, 0));
        }
        is("unworn", 0, y.count(8));
    }

    // ---- MARKS, promise 30

    private static void marks() {
        marksFrom0To3();
        nothingIsOnIt();
        marksHoldAll();
        marksHoldTheHour();
        nothingToUndoBehind();
        marksAreLaidAnew();
    }

    /** MARKS 0 to 3; none such. */
    private static void marksFrom0To3() {
        IceBridge x = new IceBridge();
        Due.ends("lay", 0, 3, mark -> Due.orNone(x.mark(mark, false)));
        Due.ends("back", 0, 3, mark -> Due.orNone(x.mark(mark, true)));
        IceBridge y = Due.fjord("fjord 2 1;frost 1;pourer a west plain pails 9;");
        for (int mark = 0; mark < 4; mark++) {
            pours(y, 1, 0, 0, 0);
            yes("lay", y.mark(mark, false));
        }
        for (int mark = 0; mark < 4; mark++) {
            yes("back", y.mark(mark, true));
            is("each its own", mark + 1, y.cell(0, 0, 0));
        }
    }

    /** Nothing is on it (back). */
    private static void nothingIsOnIt() {
        IceBridge x = Due.fjord("fjord 2 1;frost 1;pourer a west plain pails 9;");
        pours(x, 1, 0, 0, 0);
        for (int mark = 0; mark < 4; mark++) {
            no("nothing", x.mark(mark, true));
        }
        is("nothing is done", 1, x.count(10));
        yes("2 is laid", x.mark(2, false));
        for (int mark = 0; mark < 4; mark++) {
            Due.is("2 alone", mark == 2, x.mark(mark, true));
        }
    }

    /** MARKS hold the FJORD and all as it is. */
    private static void marksHoldAll() {
        IceBridge x = Due.fjord(SOME + "mild 3;");
        x.hours(24);
        pours(x, 2, 0, 0, 0);
        pours(x, 2, 0, 2, 0);
        pours(x, 1, 3, 3, 0);
        yes("over", x.over(0, 0));
        x.share(1, 77);
        x.stump(3, 0, 4);
        x.stump(0, 0, 7);
        int[] counts = new int[12];
        for (int what = 0; what < 12; what++) {
            counts[what] = x.count(what);
        }
        yes("lay", x.mark(1, false));
        is("it can still be undone", 6, x.count(10));
        is("another", 0, Due.read(x, "fjord 2 1;frost 9;"));
        yes("back", x.mark(1, true));
        for (int what = 0; what < 12; what++) {
            is("count " + what, what == 10 ? 0 : counts[what], x.count(what));
        }
        is("rock", 1, x.cell(1, 0, 1));
        is("salt", 2, x.cell(2, 0, 1));
        is("current", 3, x.cell(3, 1, 2));
        is("grip", 4, x.cell(0, 0, 3));
        is("thick", 7, x.cell(0, 0, 0));
        is("pails", 2, x.pourer(0, 2));
        is("share", 77, x.pourer(1, 3));
        is("over", 1, x.load(0, 3));
        is("not over", 0, x.load(1, 3));
        is("stump", 1, x.fits(0, 0, 0, 12, 0));
        is("its other stump", 1, x.salted(0, 0, 13) >> 3);
        is("melt", 7 - 1, afterNoon(x));
    }

    /** The HOUR, too, and what has MELTED. */
    private static void marksHoldTheHour() {
        IceBridge x = Due.fjord("fjord 2 1;frost 7;melt 2;pourer a west plain pails 9;pourer b west plain pails 9;load f foot heavy 1 worth 1;");
        pours(x, 2, 0, 0, 0);
        pours(x, 1, 0, 1, 0);
        yes("over", x.over(0, 0));
        x.hours(14);
        yes("lay", x.mark(3, false));
        int[] counts = {2, 1, 2, 1, 14, 0, 21, 8, 2, 11, 0, 0, 0};
        x.hours(33);
        is("hour 23", 23, x.count(4));
        yes("back", x.mark(3, true));
        for (int what = 0; what < counts.length; what++) {
            is("count " + what, counts[what], x.count(what));
        }
        is("the hours go on from there", 15, x.hours(1));
        is("melted on", 12, x.count(7));
        is("from what it was", 7, x.count(9));
        is("pails left", 6, x.pourer(0, 2));
        is("over", 1, x.load(0, 3));
    }

    private static int afterNoon(IceBridge x) {
        x.hours(13);
        return x.cell(0, 0, 0);
    }

    /** Nothing can be undone when one is gone back to. */
    private static void nothingToUndoBehind() {
        IceBridge x = Due.fjord("fjord 2 1;frost 1;pourer a west plain pails 9;");
        pours(x, 3, 0, 0, 0);
        yes("lay", x.mark(0, false));
        is("3 still", 3, x.count(10));
        yes("undo", x.undo());
        yes("back", x.mark(0, true));
        is("none", 0, x.count(10));
        no("none", x.undo());
        is("thick", 3, x.cell(0, 0, 0));
        pours(x, 1, 0, 0, 0);
        no("a mark that can't be", x.mark(4, true));
        no("with nothing on it", x.mark(1, true));
        is("keeps it", 1, x.count(10));
        yes("undo", x.undo());
    }

    private static void marksAreLaidAnew() {
        IceBridge x = Due.fjord("fjord 2 1;frost 1;pourer a west plain pails 9;");
        yes("lay", x.mark(0, false));
        pours(x, 2, 0, 0, 0);
        yes("back", x.mark(0, true));
        is("what is done later is not on it", 0, x.cell(0, 0, 0));
        pours(x, 2, 0, 0, 0);
        yes("lay anew", x.mark(0, false));
        pours(x, 2, 0, 0, 0);
        x.share(0, 4);
        x.stump(0, 0, 1);
        yes("back", x.mark(0, true));
        is("the new one", 2, x.cell(0, 0, 0));
        is("no share", 0, x.pourer(0, 3));
        is("no stump", NONE, x.fits(0, 0, 0, 12, 0));
        yes("back again", x.mark(0, true));
        is("as often as one likes", 2, x.cell(0, 0, 0));
    }

    // ---- promises 4 to 6, 11, 12, 31

    /** An object is used for at most 512 calls: up to the last of them it answers as ever. */
    private static void usedFor512Calls() {
        IceBridge x = new IceBridge();
        for (int call = 1; call <= 512; call++) {
            is("call " + call, call, x.hours(1));
        }
        IceBridge y = new IceBridge();
        String text = "fjord 9 1;";
        for (int call = 2; call <= 512; call += 2) {
            is("fed by call " + (call - 1), 10, y.feed(Due.pack(text, 0), Due.pack(text, 8), 0));
            is("read by call " + call, 0, y.fjord());
        }
        IceBridge z = Due.fjord("fjord 2 1;frost 1;pourer a west plain pails 9;");
        for (int call = 4; call <= 510; call += 2) {
            yes("poured by call " + call, z.pour(0, 0, 0));
            yes("undone by call " + (call + 1), z.undo());
        }
        is("water by call 512", 0, z.cell(0, 0, 0));
    }

    private static void questions() {
        usedFor512Calls();
        argumentsOfQuestions();
        thinIsTheLeast();
        untilFrom0To24();
        counts();
    }

    private static void argumentsOfQuestions() {
        IceBridge x = Due.fjord("fjord 10 6;pourer a west plain pails 1;pourer b west plain pails 1;load c foot heavy 1 worth 1;"
            + "load d foot heavy 1 worth 1;");
        Due.ends("cell column", 0, 9, column -> x.cell(column, 0, 0));
        Due.ends("cell row", 0, 5, row -> x.cell(0, row, 0));
        Due.ends("cell what", 0, 3, what -> x.cell(0, 0, what));
        Due.ends("pourer", 0, 1, pourer -> x.pourer(pourer, 0));
        Due.ends("pourer what", 0, 3, what -> x.pourer(0, what));
        Due.ends("load", 0, 1, load -> x.load(load, 0));
        Due.ends("load what", 0, 3, what -> x.load(0, what));
        Due.ends("thin row", 0, 5, x::thin);
        Due.ends("until load", 0, 1, load -> x.until(load, 0));
        Due.ends("until row", 0, 5, row -> x.until(0, row));
        Due.ends("count what", 0, 12, x::count);
        IceBridge y = new IceBridge();
        Due.ends("cell column of two", 0, 1, column -> y.cell(column, 0, 0));
        Due.ends("cell row of one", 0, 0, row -> y.cell(0, row, 0));
        Due.ends("thin row of one", 0, 0, y::thin);
        is("no pourer", NONE, y.pourer(0, 0));
        is("no load", NONE, y.load(0, 0));
        is("no load until", NONE, y.until(0, 0));
    }

    /** The least THICK of a row's CELLS that are no rocks (99: all are). */
    private static void thinIsTheLeast() {
        for (int least = 0; least < 4; least++) {
            IceBridge x = Due.fjord("fjord 4 1;frost 5-(column=" + least + ")*2;pourer a west plain pails 9;");
            for (int column = 0; column < 4; column++) {
                is("water", 0, x.thin(0));
                pours(x, 1, 0, column, 0);
            }
            is("the least is " + least, 3, x.thin(0));
        }
        is("one is no rock", 0, Due.fjord("fjord 3 1;rock 0 0;rock 2 0;").thin(0));
        is("all are", 99, Due.fjord("fjord 3 1;rock 0 0;rock 2 0;rock 1 0;").thin(0));
        is("salt is none", 0, Due.fjord("fjord 2 1;rock 0 0;salt 1 0;").thin(0));
    }

    private static int until(String melt, int passed) {
        IceBridge x = Due.fjord("fjord 2 1;frost 4;melt " + melt + ";pourer a west plain pails 9;load f foot heavy 3 worth 1;");
        pours(x, 1, 0, 0, 0);
        pours(x, 1, 0, 1, 0);
        if (passed > 0) {
            x.hours(passed);
        }
        int before = x.count(9);
        int answer = x.until(0, 0);
        is("nothing is done", before, x.count(9));
        return answer;
    }

    /** For how many HOURS from now on (1 to 24) a row BEARS a LOAD if nothing is done (0: not now). */
    private static void untilFrom0To24() {
        is("1 an hour from 12 on", 14, until("1", 0));
        is("2 in hour 12", 13, until("2", 0));
        is("at noon still", 1, until("2", 12));
        is("not now", 0, until("2", 13));
        is("not by night, either", 0, until("2", 30));
        is("not even in hour 23", 24, until("9*(hour=23)", 0));
        is("in hour 23 of now on 1", 23, until("9*(hour=23)", 1));
        is("in hour 23 now", 1, until("9*(hour=23)", 23));
        is("in hour 22", 23, until("9*(hour=22)", 0));
        is("in hour 12", 13, until("9*(hour=12)", 0));
        is("in hour 11 none", 24, until("9*(hour=11)", 0));
        is("24 at most", 24, until("0", 0));
        is("24 at most, from 23 on", 24, until("0", 23));
        is("hour 12 of the next night", 24, until("9*(hour=12)*(night=1)", 12));
        is("that of one hour later", 23, until("9*(hour=12)*(night=1)", 14));
        is("one cell alone", 13, until("9*(column=1)", 0));
        is("the other cell alone", 13, until("9*(column=0)", 0));
        is("down to what it needs", 24, until("(hour=12)", 0));
        is("1 below it", 14, until("(hour=12)+(hour=13)", 0));
        IceBridge x = Due.fjord("fjord 2 1;rock 0 0;rock 1 0;load f foot heavy 50 worth 1;");
        is("rocks", 24, x.until(0, 0));
        yes("over", x.over(0, 0));
        is("that it is over does not matter", 24, x.until(0, 0));
    }

    private static void counts() {
        IceBridge x = Due.fjord("fjord 9 5;mild 6;frost 8;melt 3;pourer a west plain pails 9;load f foot heavy 1 worth 1;"
            + "load g foot heavy 2 worth 1;rock 1 0;rock 2 0;rock 3 0;rock 4 0;rock 5 0;rock 6 0;rock 7 0;rock 8 0;");
        pours(x, 1, 0, 0, 0);
        x.hours(24 + 13);
        no("melted away by then", x.over(0, 0));
        x.hours(11 + 7);
        pours(x, 2, 0, 0, 0);
        yes("over", x.over(1, 0));
        Due.feed(x, "fjord");
        int[] want = {9, 5, 1, 2, 7, 2, 24, 8, 1, 15, 3, 6, 5};
        for (int what = 0; what < want.length; what++) {
            is("count " + what, want[what], x.count(what));
        }
    }
}
