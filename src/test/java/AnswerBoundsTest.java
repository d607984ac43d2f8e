import java.math.BigInteger;
import java.util.function.IntUnaryOperator;

/** Each sentence on what is asked (CARRIED to WINTER, promises 13 to 29) that names a boundary, on both sides of it. */
public final class AnswerBoundsTest {
    private static final int NONE = IceBridge.NONE;
    private static final int THROWN = Due.THROWN;

    private AnswerBoundsTest() {
    }

    public static void main(String[] args) {
        carrying();
        building();
        meeting();
        guessing();
        queueing();
        tolls();
        sounds();
        villages();
        stumps();
        winters();
        Due.end();
    }

    private static void is(String call, int want, int got) {
        Due.is(call, want, got);
    }

    private static void yes(String call, boolean got) {
        Due.yes(call, got);
    }

    private static void no(String call, boolean got) {
        Due.no(call, got);
    }

    /** Worth, bits and the numbers behind them; nothing beyond. */
    private static void row(String call, int[] want, IntUnaryOperator got) {
        for (int what = 0; what < want.length; what++) {
            is(call + ", what " + what, want[what], got.applyAsInt(what));
        }
        for (int what = want.length; what < 12; what++) {
            is(call + ", beyond " + what, NONE, got.applyAsInt(what));
        }
        is(call + ", -1", NONE, got.applyAsInt(-1));
        is(call + ", far below", NONE, got.applyAsInt(Integer.MIN_VALUE));
        is(call + ", far beyond", NONE, got.applyAsInt(Integer.MAX_VALUE));
    }

    private static IceBridge pour(IceBridge x, int row) {
        for (int column = 0; column < x.count(0); column++) {
            if (x.cell(column, row, 1) != 1) {
                yes("pour on " + column, x.pour(0, column, row));
            }
        }
        return x;
    }

    /** Row 0 of two CELLS so thick, row 1 of rocks; later no GRIP. */
    private static IceBridge iced(int thick, String loads) {
        IceBridge x = Due.fjord("fjord 2 2;rock 0 1;rock 1 1;frost (hour=0)*" + thick + ";pourer pw west plain pails 9;" + loads);
        return thick > 0 ? pour(x, 0) : x;
    }

    private static String load(char name, String kind, int heavy, int worth) {
        return "load " + name + " " + kind + " heavy " + heavy + " worth " + worth + ";";
    }

    // ---- CARRIED, promise 13

    private static void carrying() {
        carriedOneBehindTheOther();
        carriedTheFewest();
        carriedFirstRowOfNumbers();
        carriedNotOverYet();
        carriedOfSevenLoads();
        argumentsOfCarried();
    }

    private static void carries(String call, int thick, String loads, int... want) {
        IceBridge x = iced(thick, loads);
        row(call, want, what -> x.carried(0, what));
        is("nothing goes by asking", thick, x.thin(0));
    }

    /** LOADS one behind the other: each needs what those ahead of it have left. */
    private static void carriedOneBehindTheOther() {
        String loads = load('a', "foot", 1, 1) + load('b', "foot", 2, 1) + load('c', "foot", 3, 1) + load('d', "foot", 4, 1);
        carries("4 bears all, the heavy ones ahead", 4, loads, 4, 15, 3, 2, 1, 0);
        carries("3 bears all but the heaviest", 3, loads, 3, 7, 2, 1, 0);
        carries("1 bears one", 1, loads, 1, 1, 0);
        carries("water bears none", 0, loads, 0, 0);
        String horses = load('a', "horse", 3, 1) + load('b', "horse", 1, 1);
        carries("horses need 4, then 2", 4, horses, 2, 3, 0, 1);
        carries("3 bears the second alone", 3, horses, 1, 2, 1);
        String hearses = load('a', "hearse", 5, 1) + load('b', "hearse", 5, 1) + load('c', "dance", 5, 1) + load('d', "hearse", 3, 1);
        carries("hearses wear nothing, the dance is last", 5, hearses, 4, 15, 0, 1, 3, 2);
        carries("4 bears one hearse", 4, hearses, 1, 8, 3);
        String dances = load('a', "dance", 1, 1) + load('b', "dance", 1, 1) + load('c', "dance", 1, 1);
        carries("7 bears three dances", 7, dances, 3, 7, 0, 1, 2);
        carries("6 bears two", 6, dances, 2, 3, 0, 1);
        carries("4 bears two", 4, dances, 2, 3, 0, 1);
        carries("3 bears one", 3, dances, 1, 1, 0);
    }

    /** So that most is worth; of equal ones the fewest. */
    private static void carriedTheFewest() {
        String loads = load('a', "foot", 1, 1) + load('b', "foot", 2, 1);
        carries("2 of two", 2, loads + load('c', "dance", 2, 2), 2, 4, 2);
        carries("1 of one is less", 2, loads + load('c', "dance", 2, 1), 2, 3, 1, 0);
        carries("3 of one is more", 2, loads + load('c', "dance", 2, 3), 3, 4, 2);
        carries("what is worth 0 stays", 9, load('a', "hearse", 1, 0) + load('b', "hearse", 1, 1), 1, 2, 1);
        carries("nothing is worth anything", 9, load('a', "hearse", 1, 0) + load('b', "hearse", 1, 0), 0, 0);
        carries("1 each", 9, load('a', "hearse", 1, 1) + load('b', "hearse", 1, 1), 2, 3, 0, 1);
    }

    /** Then the first row of numbers. */
    private static void carriedFirstRowOfNumbers() {
        String dances = load('a', "dance", 1, 3) + load('b', "dance", 4, 5) + load('c', "dance", 4, 5) + load('d', "dance", 1, 3);
        carries("1, 0 is ahead of 1, 3 and 2, 0", 4, dances, 8, 3, 1, 0);
        carries("the first of equal ones", 1, load('a', "foot", 2, 9) + load('b', "foot", 1, 4) + load('c', "foot", 1, 4), 4, 2, 1);
        carries("0, 1, 2 if any order does", 9, load('a', "foot", 1, 1) + load('b', "foot", 1, 2) + load('c', "foot", 1, 3),
            6, 7, 0, 1, 2);
        carries("the last one ahead if it must", 3, load('a', "foot", 1, 1) + load('b', "foot", 1, 2) + load('c', "foot", 3, 3),
            6, 7, 2, 0, 1);
        carries("as far ahead as it can be", 4, load('a', "foot", 2, 1) + load('b', "foot", 2, 1) + load('c', "foot", 3, 1),
            3, 7, 0, 2, 1);
    }

    /** LOADS not over yet. */
    private static void carriedNotOverYet() {
        IceBridge x = iced(9, load('a', "foot", 1, 5) + load('b', "foot", 1, 6));
        row("both", new int[] {11, 3, 0, 1}, what -> x.carried(0, what));
        yes("over", x.over(0, 1));
        row("the other", new int[] {6, 2, 1}, what -> x.carried(0, what));
        yes("over", x.over(1, 1));
        row("none", new int[] {0, 0}, what -> x.carried(1, what));
        yes("undone", x.undo());
        row("the other again", new int[] {6, 2, 1}, what -> x.carried(0, what));
        x.hours(12);
        row("by day, too", new int[] {6, 2, 1}, what -> x.carried(0, what));
        x.hours(12);
        row("both on rocks the next night", new int[] {11, 3, 0, 1}, what -> x.carried(1, what));
    }

    private static String seven(int heavy) {
        StringBuilder text = new StringBuilder();
        for (char name = 'a'; name < 'h'; name++) {
            text.append(load(name, "dance", heavy, 99));
        }
        return text.toString();
    }

    private static void carriedOfSevenLoads() {
        IceBridge x = iced(9, seven(50));
        row("rocks bear all seven", new int[] {693, 127, 0, 1, 2, 3, 4, 5, 6}, what -> x.carried(1, what));
        row("9 bears none of 50", new int[] {0, 0}, what -> x.carried(0, what));
        IceBridge y = iced(9, seven(1));
        row("9 bears three dances", new int[] {297, 7, 0, 1, 2}, what -> y.carried(0, what));
        row("no loads", new int[] {0, 0}, what -> new IceBridge().carried(0, what));
        String dead = load('a', "dance", 1, 1) + load('b', "foot", 1, 9) + load('c', "foot", 2, 9) + load('d', "foot", 3, 9)
            + load('e', "horse", 2, 9) + load('f', "dance", 3, 26) + load('g', "dance", 3, 26);
        carries("27 of three, not 26 of one, nor 1 that leads nowhere", 3, dead, 27, 14, 3, 2, 1);
    }

    private static void argumentsOfCarried() {
        IceBridge x = Due.fjord("fjord 10 6;");
        Due.ends("carried row", 0, 5, row -> x.carried(row, 0));
        Due.ends("carried row of one", 0, 0, row -> new IceBridge().carried(row, 1));
        IceBridge y = iced(9, seven(1));
        Due.ends("carried what", 0, 4, what -> y.carried(0, what));
        Due.ends("carried what on rocks", 0, 8, what -> y.carried(1, what));
    }

    // ---- BUILT and BEST, promises 14 and 15

    private static void building() {
        builtByPails();
        builtUpTo99();
        builtOnWhatIsThere();
        builtWithoutGrip();
        builtByThisHour();
        bestRow();
        argumentsOfBuilt();
    }

    private static void builds(String call, String text, int row, int pails, int thickness, int needed) {
        IceBridge x = Due.fjord(text);
        is(call + ": thickness", thickness, x.built(row, pails, 0));
        is(call + ": pails", needed, x.built(row, pails, 1));
        is("nothing is built", 0, x.count(9));
    }

    /** The greatest THICKNESS that each CELL can have, with the fewest pails for that. */
    private static void builtByPails() {
        String text = "fjord 2 2;rock 0 1;frost 4;";
        builds("no pails", text, 0, 0, 0, 0);
        builds("one of two cells", text, 0, 1, 0, 0);
        builds("both", text, 0, 2, 4, 2);
        builds("one twice", text, 0, 3, 4, 2);
        builds("both twice", text, 0, 4, 8, 4);
        builds("the one that is no rock", text, 1, 1, 4, 1);
        String salt = "fjord 2 1;salt 1 0;frost 5;";
        builds("5 and 2", salt, 0, 2, 2, 2);
        builds("5 and 4", salt, 0, 3, 4, 3);
        builds("5 and 6", salt, 0, 4, 5, 4);
        builds("10 and 6", salt, 0, 5, 6, 5);
        builds("10 and 8", salt, 0, 6, 8, 6);
        builds("ten cells, nine pails", "fjord 10 1;frost 9;", 0, 9, 0, 0);
        builds("ten cells, ten pails", "fjord 10 1;frost 9;", 0, 10, 9, 10);
        builds("whoever pours, no more by a smith", "fjord 2 1;frost 9;pourer s west smith pails 9;", 0, 2, 9, 2);
        builds("whoever pours, not by whom", "fjord 5 1;frost 9;pourer s west child pails 0;", 0, 5, 9, 5);
    }

    /** 99 at most; a row of rocks has 99. */
    private static void builtUpTo99() {
        builds("11 pails of 9 twice", "fjord 2 1;frost 9;", 0, 22, 99, 22);
        builds("one pail less", "fjord 2 1;frost 9;", 0, 21, 90, 20);
        builds("999 pails", "fjord 2 1;frost 9;", 0, 999, 99, 22);
        builds("14 of 7 are 98", "fjord 2 1;frost 7;", 0, 29, 98, 28);
        builds("15 of 7 are 99 at most", "fjord 2 1;frost 7;", 0, 30, 99, 30);
        builds("16 of 7 are no more", "fjord 2 1;frost 7;", 0, 32, 99, 30);
        builds("989 for ten cells of 1", "fjord 10 1;frost 1;", 0, 989, 98, 980);
        builds("990 for ten cells of 1", "fjord 10 1;frost 1;", 0, 990, 99, 990);
        builds("999 for ten cells of 1", "fjord 10 1;frost 1;", 0, 999, 99, 990);
        builds("rocks by no pails", "fjord 2 1;rock 0 0;rock 1 0;", 0, 0, 99, 0);
        builds("rocks by 999 pails", "fjord 2 1;rock 0 0;rock 1 0;", 0, 999, 99, 0);
        builds("rocks without grip", "fjord 2 1;rock 0 0;rock 1 0;frost 0;", 0, 9, 99, 0);
        builds("all but one are rocks", "fjord 3 1;rock 0 0;rock 2 0;frost 9;", 0, 10, 90, 10);
    }

    /** Those that are thicker stay. */
    private static void builtOnWhatIsThere() {
        IceBridge x = Due.fjord("fjord 3 1;frost 3;pourer a west plain pails 9;");
        yes("3", x.pour(0, 0, 0));
        yes("6", x.pour(0, 0, 0));
        yes("3 on the next", x.pour(0, 1, 0));
        int[] thickness = {0, 3, 3, 6, 6, 6, 9};
        int[] pails = {0, 1, 1, 3, 3, 3, 6};
        for (int i = 0; i < thickness.length; i++) {
            is("6, 3, 0 by " + i, thickness[i], x.built(0, i, 0));
            is("6, 3, 0 by " + i + ": pails", pails[i], x.built(0, i, 1));
        }
        yes("3 on the last", x.pour(0, 2, 0));
        is("6, 3, 3 by none", 3, x.built(0, 0, 0));
        is("takes none", 0, x.built(0, 0, 1));
        is("6, 3, 3 by one", 3, x.built(0, 1, 0));
        is("takes none", 0, x.built(0, 1, 1));
        is("6, 3, 3 by two", 6, x.built(0, 2, 0));
    }

    /** Where GRIP is 0 nothing gets thicker. */
    private static void builtWithoutGrip() {
        builds("none anywhere", "fjord 2 1;frost 0;", 0, 999, 0, 0);
        builds("none on one cell", "fjord 2 1;frost column*9;", 0, 999, 0, 0);
        builds("a rock there", "fjord 2 1;rock 0 0;frost column*9;", 0, 999, 99, 11);
        builds("none on salt of 1", "fjord 2 1;salt 0 0;frost 1;", 0, 999, 0, 0);
        builds("1 on salt of 2", "fjord 2 1;salt 0 0;frost 2;", 0, 3, 2, 3);
        IceBridge x = pour(Due.fjord("fjord 2 1;frost 4*(hour=0)+column*3*(hour=1);pourer a west plain pails 9;"), 0);
        yes("8 on the second", x.pour(0, 1, 0));
        x.hours(1);
        is("no thicker than the cell without grip", 4, x.built(0, 999, 0));
        is("by none", 0, x.built(0, 999, 1));
        x.hours(1);
        is("none on both", 4, x.built(0, 999, 0));
    }

    /** Each by GRIP of this HOUR. */
    private static void builtByThisHour() {
        IceBridge x = Due.fjord("fjord 2 1;frost 1+(hour=11)+2*(hour=12)+3*(night=1);");
        is("by 1", 1, x.built(0, 2, 0));
        x.hours(11);
        is("by 2", 2, x.built(0, 2, 0));
        x.hours(1);
        is("by 3, though by day", 3, x.built(0, 2, 0));
        x.hours(12);
        is("by 4 the next night", 4, x.built(0, 2, 0));
    }

    /** BEST: the greatest, of equal ones that with fewer pails, then the first. */
    private static void bestRow() {
        IceBridge x = Due.fjord("fjord 2 4;frost 1+row-(row=3);");
        is("0: all alike, the first", 0, x.best(0));
        is("1: all alike, the first", 0, x.best(1));
        is("2: row 2 and 3 by 3 and 3, the first", 2, x.best(2));
        is("4: 6 each, the first", 2, x.best(4));
        is("99 by row 2", 2, x.best(66));
        IceBridge y = Due.fjord("fjord 2 3;frost 4-(row=1);");
        is("6 pails: 12, 9, 12", 0, y.best(6));
        is("25: 48, 36", 0, y.best(25));
        is("50: 99 by 50, 66 pails are for 99 by 3", 0, y.best(50));
        IceBridge z = Due.fjord("fjord 2 3;frost 4+(row=1)*5+(row=2)*5;");
        is("999: 99 by 22 the first", 1, z.best(999));
        is("1: 0 by none", 0, z.best(1));
        IceBridge fewer = Due.fjord("fjord 4 2;rock 0 1;rock 1 1;frost 3-row*2;");
        is("4: 3 by 4, 2 by 4", 0, fewer.best(4));
        is("6: 3 by 4, 3 by 6", 0, fewer.best(6));
        is("2: 0, 1", 1, fewer.best(2));
        IceBridge more = Due.fjord("fjord 4 2;rock 0 0;rock 1 0;frost 1+row*2;");
        is("3: 1 by 2, 0", 0, more.best(3));
        is("4: 2 by 4, 3 by 4", 1, more.best(4));
        is("6: 3 by 6, 3 by 4", 1, more.best(6));
        IceBridge last = Due.fjord("fjord 4 2;rock 0 1;rock 1 1;frost 3;");
        is("4: 3, 6", 1, last.best(4));
        is("3: 0, 3", 1, last.best(3));
        is("999: 99 by 132, by 66", 1, last.best(999));
        is("1: 0 each by none, the first", 0, last.best(1));
        is("rocks have 99", 5, Due.fjord("fjord 2 6;rock 0 5;rock 1 5;frost 9;").best(21));
        is("99 by 22 pails is more than none", 5, Due.fjord("fjord 2 6;rock 0 5;rock 1 5;frost 9;").best(999));
        IceBridge iced = pour(Due.fjord("fjord 2 2;frost 2;pourer a west plain pails 9;"), 1);
        is("what is there counts", 1, iced.best(0));
        is("2 by none is more than 0", 1, iced.best(1));
    }

    private static void argumentsOfBuilt() {
        IceBridge x = Due.fjord("fjord 10 6;");
        Due.ends("built row", 0, 5, row -> x.built(row, 1, 0));
        Due.ends("built pails", 0, 999, pails -> x.built(0, pails, 0));
        Due.ends("built what", 0, 1, what -> x.built(0, 1, what));
        Due.ends("best pails", 0, 999, x::best);
        Due.ends("built row of one", 0, 0, row -> new IceBridge().built(row, 0, 1));
    }

    // ---- MEETING, promises 16 and 17

    private static void meeting() {
        halvesHaveTheMiddle();
        halfWhereItCantBe();
        halfWhereIceIs();
        restsOfEqualRows();
        restsWhereNoneWouldPayLess();
        argumentsOfMeeting();
    }

    /** West has the first half of the CELLS of a row (with the middle one), east the others. */
    private static void halvesHaveTheMiddle() {
        for (int columns = 2; columns <= 10; columns++) {
            for (int grip = 1; grip <= 9; grip += 4) {
                IceBridge x = Due.fjord("fjord " + columns + " 1;frost " + grip + ";");
                is("west of " + columns, (columns + 1) / 2, x.half(0, 0));
                is("east of " + columns, columns / 2, x.half(1, 0));
            }
        }
        IceBridge y = Due.fjord("fjord 5 1;rock 0 0;rock 1 0;rock 3 0;rock 4 0;");
        is("the middle is west's", 1, y.half(0, 0));
        is("not east's", 0, y.half(1, 0));
        IceBridge z = Due.fjord("fjord 4 1;rock 0 0;rock 3 0;rock 1 0;");
        is("of four the third is east's", 1, z.half(1, 0));
        is("not west's", 0, z.half(0, 0));
    }

    /** The pails by which each CELL of its half has ice (99 where that can't be). */
    private static void halfWhereItCantBe() {
        IceBridge x = Due.fjord("fjord 5 2;frost (column<2)+(column=3)-(row=1);rock 2 1;rock 0 1;");
        is("one cell of west can't have any", 99, x.half(0, 0));
        is("one cell of east can't", 99, x.half(1, 0));
        is("nor here", 99, x.half(0, 1));
        IceBridge y = Due.fjord("fjord 5 1;frost (column<2)+(column=3);rock 2 0;rock 4 0;");
        is("rocks need none", 2, y.half(0, 0));
        is("rocks need none", 1, y.half(1, 0));
        is("all rocks", 0, Due.fjord("fjord 2 1;rock 0 0;rock 1 0;frost 0;").half(0, 0));
        is("salt of 1", 99, Due.fjord("fjord 2 1;salt 0 0;frost 1;").half(0, 0));
        is("salt of 2", 1, Due.fjord("fjord 2 1;salt 0 0;frost 2;").half(0, 0));
    }

    private static void halfWhereIceIs() {
        IceBridge x = Due.fjord("fjord 4 1;frost (hour<2);pourer a west plain pails 9;");
        is("2 of 2", 2, x.half(0, 0));
        yes("1 finger", x.pour(0, 0, 0));
        is("1 of 2", 1, x.half(0, 0));
        yes("1 finger", x.pour(0, 1, 0));
        is("0 of 2", 0, x.half(0, 0));
        is("2 of east", 2, x.half(1, 0));
        x.hours(2);
        is("0 without grip", 0, x.half(0, 0));
        is("99 without grip", 99, x.half(1, 0));
    }

    /** RESTS: pairs of which none of both would pay less by another one of its own alone; in this order. */
    private static void restsOfEqualRows() {
        IceBridge x = Due.fjord("fjord 2 6;");
        is("misfit 0: all pairs", 36, x.rests(0, NONE));
        for (int i = 0; i < 36; i++) {
            is("misfit 0: the " + i, 8 * (i / 6) + i % 6, x.rests(0, i));
        }
        is("misfit 0: beyond", NONE, x.rests(0, 36));
        for (int misfit : new int[] {1, 99}) {
            is("misfit " + misfit + ": the same row alone", 6, x.rests(misfit, NONE));
            for (int i = 0; i < 6; i++) {
                is("misfit " + misfit + ": the " + i, 9 * i, x.rests(misfit, i));
            }
            is("misfit " + misfit + ": beyond", NONE, x.rests(misfit, 6));
        }
    }

    private static void rest(IceBridge x, int misfit, int... want) {
        is("misfit " + misfit + ": how many", want.length, x.rests(misfit, NONE));
        for (int i = 0; i < want.length; i++) {
            is("misfit " + misfit + ": the " + i, want[i], x.rests(misfit, i));
        }
        is("misfit " + misfit + ": beyond", NONE, x.rests(misfit, want.length));
    }

    /** West pays 2 for row 0 and nothing for row 1, east 2 for each. */
    private static IceBridge twoRows() {
        return Due.fjord("fjord 4 2;rock 0 1;rock 1 1;");
    }

    private static void restsWhereNoneWouldPayLess() {
        IceBridge west = twoRows();
        rest(west, 0, 8, 9);
        rest(west, 1, 9);
        rest(west, 2, 0, 9);
        rest(west, 3, 0, 9);
        IceBridge east = Due.fjord("fjord 4 2;rock 2 1;rock 3 1;");
        rest(east, 0, 1, 9);
        rest(east, 1, 9);
        rest(east, 2, 0, 9);
        IceBridge cross = Due.fjord("fjord 4 2;rock 0 1;rock 1 1;rock 2 0;rock 3 0;");
        rest(cross, 0, 8);
        rest(cross, 1, 8);
        rest(cross, 2, 0, 8, 9);
        rest(cross, 3, 0, 9);
        IceBridge cannot = Due.fjord("fjord 2 2;frost row;");
        rest(cannot, 97, 9);
        rest(cannot, 98, 0, 9);
        IceBridge far = Due.fjord("fjord 2 3;frost row=2;");
        rest(far, 48, 18);
        rest(far, 49, 0, 18);
        rest(far, 99, 0, 9, 18);
        rest(far, 98, 0, 9, 18);
        rest(far, 97, 0, 18);
    }

    private static void argumentsOfMeeting() {
        IceBridge x = Due.fjord("fjord 10 6;");
        Due.ends("half side", 0, 1, side -> x.half(side, 0));
        Due.ends("half row", 0, 5, row -> x.half(0, row));
        Due.ends("rests misfit", 0, 99, misfit -> x.rests(misfit, NONE));
        Due.ends("rests misfit, the first", 0, 99, misfit -> x.rests(misfit, 0));
        Due.ends("rests what", 0, 5, what -> what == NONE ? NONE : x.rests(1, what));
        is("what -2", NONE, x.rests(1, -2));
        is("half row of one", NONE, new IceBridge().half(0, 1));
    }

    // ---- GUESS, promise 18

    private static void guessing() {
        guessOfOneRow();
        guessOfTheWorst();
        argumentsOfGuess();
    }

    private static void guess(IceBridge x, int side, int set, int misfit, int row, int pays) {
        String call = "guess of " + side + " by " + set + ", misfit " + misfit;
        is(call, row, x.guess(side, set, misfit, 0));
        is(call + ": pays", pays, x.guess(side, set, misfit, 1));
    }

    /** The row by which it pays least; of equal ones the first; what it pays so. */
    private static void guessOfOneRow() {
        IceBridge x = twoRows();
        guess(x, 0, 1, 1, 1, 1);
        guess(x, 0, 1, 2, 0, 2);
        guess(x, 0, 1, 3, 0, 2);
        guess(x, 0, 2, 99, 1, 0);
        guess(x, 1, 1, 0, 0, 2);
        guess(x, 1, 2, 0, 0, 2);
        guess(x, 1, 2, 1, 1, 2);
        guess(new IceBridge(), 0, 1, 99, 0, 1);
        guess(Due.fjord("fjord 2 2;frost row;"), 0, 1, 97, 1, 98);
        guess(Due.fjord("fjord 2 2;frost row;"), 0, 1, 98, 0, 99);
        guess(Due.fjord("fjord 2 2;frost 0;"), 1, 2, 99, 1, 99);
    }

    /** If the other chooses that one of these that is worst for it. */
    private static void guessOfTheWorst() {
        IceBridge x = twoRows();
        guess(x, 0, 3, 0, 1, 0);
        guess(x, 0, 3, 2, 1, 2);
        guess(x, 1, 3, 5, 0, 7);
        IceBridge six = Due.fjord("fjord 2 6;");
        guess(six, 0, 63, 1, 2, 4);
        guess(six, 0, 33, 1, 2, 4);
        guess(six, 1, 33, 99, 2, 1 + 3 * 99);
        guess(six, 0, 32, 1, 5, 1);
        guess(six, 0, 1, 1, 0, 1);
        guess(six, 1, 21, 2, 2, 5);
        guess(six, 1, 42, 2, 3, 5);
        guess(six, 1, 40, 1, 4, 2);
        guess(six, 0, 63, 0, 0, 1);
    }

    private static void argumentsOfGuess() {
        IceBridge six = Due.fjord("fjord 2 6;");
        Due.ends("guess side", 0, 1, side -> six.guess(side, 1, 0, 0));
        Due.ends("guess set of six rows", 1, 63, set -> six.guess(0, set, 0, 0));
        Due.ends("guess set of two rows", 1, 3, set -> twoRows().guess(0, set, 0, 0));
        Due.ends("guess set of one row", 1, 1, set -> new IceBridge().guess(0, set, 0, 0));
        Due.ends("guess misfit", 0, 99, misfit -> six.guess(0, 1, misfit, 1));
        Due.ends("guess what", 0, 1, what -> six.guess(0, 1, 0, what));
    }

    // ---- QUEUE, promise 19

    private static void queueing() {
        queueGoesIfBorne();
        queueInOrder();
        queueNotOverYet();
        argumentsOfQueue();
    }

    private static void queues(String call, int thick, String text, int... want) {
        IceBridge x = iced(thick, text);
        row(call, want, what -> x.queue(0, what));
        is("nothing goes by asking", thick, x.thin(0));
    }

    /** Each goes OVER if the row BEARS it then, else it stays. */
    private static void queueGoesIfBorne() {
        String loads = load('a', "foot", 3, 1) + load('b', "foot", 3, 2) + load('c', "foot", 1, 1);
        queues("3 bears b, not a behind it, but c", 3, loads, 3, 6, 1, 0, 2);
        queues("4 bears b, a, c", 4, loads, 4, 7, 1, 0, 2);
        queues("2 bears c alone", 2, loads, 1, 4, 1, 0, 2);
        queues("water bears none", 0, loads, 0, 0, 1, 0, 2);
        String dances = load('a', "dance", 1, 9) + load('b', "dance", 1, 8) + load('c', "dance", 1, 7);
        queues("7 bears three dances", 7, dances, 24, 7, 0, 1, 2);
        queues("6 bears two", 6, dances, 17, 3, 0, 1, 2);
        queues("4 bears two", 4, dances, 17, 3, 0, 1, 2);
        queues("3 bears one", 3, dances, 9, 1, 0, 1, 2);
    }

    /** In the order of the E of first (the greatest ahead; of equal ones the first). */
    private static void queueInOrder() {
        String loads = load('a', "hearse", 1, 1) + load('b', "hearse", 2, 2) + load('c', "hearse", 3, 2) + load('d', "hearse", 4, 0);
        queues("by worth", 9, loads, 5, 15, 1, 2, 0, 3);
        queues("all alike", 9, loads + "first 1;", 5, 15, 0, 1, 2, 3);
        queues("the least worth", 9, loads + "first 0-worth;", 5, 15, 3, 0, 1, 2);
        queues("below 0 is behind 0", 9, loads + "first 0-(heavy<3);", 5, 15, 2, 3, 0, 1);
        queues("wrapped", 9, loads + "first (heavy=2)*8192*8*8192*4;", 5, 15, 0, 2, 3, 1);
        queues("the greatest int", 9, loads + "first (heavy=3)*(8192*8*8192*4-1);", 5, 15, 2, 0, 1, 3);
        queues("both of them", 9, loads + "first (heavy=3)*(8192*8*8192*4-1)+(heavy=1)*8192*8*8192*4;", 5, 15, 2, 1, 3, 0);
    }

    /** LOADS not over yet; the i-th whether it goes or not. */
    private static void queueNotOverYet() {
        IceBridge x = iced(2, load('a', "hearse", 1, 1) + load('b', "hearse", 2, 2) + load('c', "hearse", 3, 3));
        row("three", new int[] {3, 3, 2, 1, 0}, what -> x.queue(0, what));
        row("three on rocks", new int[] {6, 7, 2, 1, 0}, what -> x.queue(1, what));
        yes("over", x.over(1, 0));
        row("two", new int[] {1, 1, 2, 0}, what -> x.queue(0, what));
        yes("over", x.over(2, 1));
        row("one", new int[] {1, 1, 0}, what -> x.queue(0, what));
        yes("over", x.over(0, 1));
        row("none", new int[] {0, 0}, what -> x.queue(0, what));
        x.hours(24);
        row("three again, on rocks", new int[] {6, 7, 2, 1, 0}, what -> x.queue(1, what));
    }

    private static void argumentsOfQueue() {
        IceBridge x = iced(9, seven(50));
        row("rocks bear all seven", new int[] {693, 127, 0, 1, 2, 3, 4, 5, 6}, what -> x.queue(1, what));
        row("9 bears none of 50, they stay", new int[] {0, 0, 0, 1, 2, 3, 4, 5, 6}, what -> x.queue(0, what));
        Due.ends("queue what", 0, 8, what -> x.queue(0, what));
        Due.ends("queue row", 0, 1, row -> x.queue(row, 0));
        Due.ends("queue row of six", 0, 5, row -> Due.fjord("fjord 2 6;").queue(row, 0));
        row("no loads", new int[] {0, 0}, what -> new IceBridge().queue(0, what));
    }

    // ---- TOLL, promise 20

    private static void tolls() {
        tollByWear();
        tollOfWhatThereWas();
        tollWhereItCantBe();
        tollOfWhatCantGo();
    }

    /** Pails (each by GRIP of this HOUR) by which each CELL is as THICK again as ahead of it. */
    private static void tollByWear() {
        String[] kinds = {"foot", "horse", "sledge", "hearse", "dance"};
        int[] wears = {1, 2, 1, 0, 3};
        for (int kind = 0; kind < 5; kind++) {
            for (int grip = 1; grip <= 9; grip++) {
                IceBridge x = pour(Due.fjord("fjord 4 1;rock 3 0;frost 9*(hour=0)+" + grip + "*(hour=1);pourer pw west plain pails 9;"
                    + load('f', kinds[kind], 1, 1)), 0);
                x.hours(1);
                int each = (wears[kind] + grip - 1) / grip;
                is("toll of " + kinds[kind] + " by " + grip, 3 * each, Due.toll(x, 0, 0));
                is("nothing goes by asking", 27, x.count(9));
                is("not over", 0, x.load(0, 3));
            }
        }
        IceBridge salt = pour(Due.fjord("fjord 2 1;salt 0 0;frost 2;pourer pw west plain pails 9;" + load('d', "horse", 1, 1)), 0);
        no("1 on salt does not bear 2", salt.over(0, 0));
        yes("2 on salt", salt.pour(0, 0, 0));
        is("2 pails on salt, 1 beside", 3, Due.toll(salt, 0, 0));
    }

    /** A CELL that is thinner than the WEAR loses what it has; one of 99 is 99 again. */
    private static void tollOfWhatThereWas() {
        for (int grip = 1; grip <= 4; grip++) {
            IceBridge x = pour(Due.fjord("fjord 4 1;frost (1+column)*(hour=0)+" + grip + "*(hour=1);pourer pw west plain pails 9;"
                + load('d', "dance", 1, 1)), 0);
            x.hours(1);
            int[] want = {0, 1 + 2 + 3 + 3, 1 + 1 + 2 + 2, 4, 4};
            is("1, 2, 3, 3 by " + grip, want[grip], Due.toll(x, 0, 0));
            yes("over", x.over(0, 0));
            is("lost", 9, x.count(8));
        }
        IceBridge wide = pour(pour(Due.fjord("fjord 10 6;frost 2;pourer pw west plain pails 99;" + load('f', "foot", 1, 1)), 4), 5);
        is("ten cells, not those of the row behind", 10, Due.toll(wide, 0, 4));
        is("ten cells of the last row", 10, Due.toll(wide, 0, 5));
        IceBridge thick = Due.fjord("fjord 2 1;rock 1 0;frost 9;pourer pw west plain pails 11;" + load('f', "foot", 50, 1));
        for (int i = 0; i < 11; i++) {
            yes("pour", thick.pour(0, 0, 0));
        }
        is("from 98 to 99", 1, Due.toll(thick, 0, 0));
    }

    /** 99 in all if one can't be. */
    private static void tollWhereItCantBe() {
        String loads = load('d', "dance", 1, 1) + load('h', "hearse", 1, 1);
        for (int column = 0; column < 3; column++) {
            IceBridge x = pour(Due.fjord("fjord 3 1;frost 9*(hour=0)+(hour=1)*(1-(column=" + column + "));pourer pw west plain pails 9;"
                + loads), 0);
            x.hours(1);
            is("but not on " + column, 99, Due.toll(x, 0, 0));
            is("nothing is lost to a hearse", 0, Due.toll(x, 1, 0));
            x.hours(1);
            is("nowhere", 99, Due.toll(x, 0, 0));
        }
        IceBridge y = pour(Due.fjord("fjord 3 2;rock 0 1;rock 1 1;rock 2 1;rock 1 0;frost 9*(hour=0)+(hour=1)*(1-(column=1));"
            + "pourer pw west plain pails 9;pourer pe east plain pails 9;" + loads), 0);
        y.hours(1);
        is("a rock need not be", 6, Due.toll(y, 0, 0));
        is("a row of rocks", 0, Due.toll(y, 0, 1));
        y.hours(11);
        is("by day: no grip", 99, Due.toll(y, 0, 0));
    }

    /** NoSuchElementException: others, it is over, the row does not BEAR it. */
    private static void tollOfWhatCantGo() {
        IceBridge x = iced(4, load('f', "foot", 4, 1) + load('g', "foot", 5, 1) + load('h', "horse", 3, 1) + load('i', "horse", 4, 1)
            + load('s', "sledge", 5, 1) + load('t', "sledge", 6, 1));
        int[] bears = {1, 0, 1, 0, 1, 0};
        for (int load = 0; load < 6; load++) {
            Due.is("toll of " + load, bears[load] == 1, Due.toll(x, load, 0) != THROWN);
            is("on rocks", 0, Due.toll(x, load, 1));
        }
        yes("over", x.over(0, 1));
        is("it is over", THROWN, Due.toll(x, 0, 0));
        is("on rocks, too", THROWN, Due.toll(x, 0, 1));
        yes("undone", x.undo());
        is("it is not", 0, Due.toll(x, 0, 1));
        IceBridge y = Due.fjord("fjord 2 6;rock 0 0;rock 1 0;rock 0 5;rock 1 5;" + seven(50));
        Due.ends("toll load", 0, 6, THROWN, load -> Due.toll(y, load, 0));
        Due.ends("toll row", 0, 5, THROWN, row -> Due.toll(y, 0, row));
        is("no load at all", THROWN, Due.toll(Due.fjord("fjord 2 1;rock 0 0;rock 1 0;"), 0, 0));
    }

    // ---- SOUND and HEARD, promises 21 and 22

    private static void sounds() {
        soundModulo10();
        soundNow();
        heardFromFirstToLast();
        heardWhereItMayCrack();
        argumentsOfHeard();
    }

    /** E of sound modulo 10, not below 0. */
    private static void soundModulo10() {
        String[] laws = {"0", "1", "9", "10", "11", "19", "20", "9999", "0-1", "0-9", "0-10", "0-11", "0-19", "0-20",
            "8192*8*8192*4-1", "8192*8*8192*4", "8192*8*8192*4+1"};
        int[] want = {0, 1, 9, 0, 1, 9, 0, 9, 9, 1, 0, 9, 1, 0, 7, 2, 3};
        for (int i = 0; i < laws.length; i++) {
            IceBridge x = Due.fjord("fjord 2 1;rock 1 0;sound " + laws[i] + ";");
            is("sound " + laws[i], want[i], x.sound(0, 0));
            is("of a rock", NONE, x.sound(1, 0));
            is("heard", 0, x.heard(0, want[i], 0));
            is("once", 1, x.heard(0, want[i], 2));
            is("nothing else", NONE, x.heard(0, (want[i] + 1) % 10, 0));
        }
    }

    private static void soundNow() {
        IceBridge x = Due.fjord("fjord 2 1;frost 9;melt 2;pourer pw west plain pails 9;");
        is("water", 0, x.sound(0, 0));
        yes("9", x.pour(0, 0, 0));
        is("thick 9", 9, x.sound(0, 0));
        yes("18", x.pour(0, 0, 0));
        is("thick 18", 8, x.sound(0, 0));
        x.hours(13);
        is("thick 16", 6, x.sound(0, 0));
        Due.ends("sound column", 0, 1, column -> x.sound(column, 0));
        Due.ends("sound row", 0, 0, row -> x.sound(0, row));
        Due.ends("sound column of ten", 0, 9, column -> Due.fjord("fjord 10 6;").sound(column, 5));
        Due.ends("sound row of six", 0, 5, row -> Due.fjord("fjord 10 6;").sound(9, row));
        is("salt sounds", 0, Due.fjord("fjord 2 1;salt 0 0;").sound(0, 0));
    }

    /** The first and the last one that sound so, how many do. */
    private static void heardFromFirstToLast() {
        IceBridge x = Due.fjord("fjord 6 2;rock 2 0;sound (column=1)+(column=4)+5*(row=1)*(column=5);");
        is("first of 1", 1, x.heard(0, 1, 0));
        is("last of 1", 4, x.heard(0, 1, 1));
        is("two of 1, not what lies between", 2, x.heard(0, 1, 2));
        is("first of 0", 0, x.heard(0, 0, 0));
        is("last of 0", 5, x.heard(0, 0, 1));
        is("three of 0, no rock", 3, x.heard(0, 0, 2));
        is("one of 5: first", 5, x.heard(1, 5, 0));
        is("one of 5: last", 5, x.heard(1, 5, 1));
        is("one of 5", 1, x.heard(1, 5, 2));
        is("one of 5: crack", 5, x.heard(1, 5, 3));
        is("last of 0 in row 1", 3, x.heard(1, 0, 1));
        for (int what = 0; what < 4; what++) {
            is("none sounds so", NONE, x.heard(0, 5, what));
            is("rocks do not sound", NONE, Due.fjord("fjord 2 1;rock 0 0;rock 1 0;").heard(0, 0, what));
            is("rocks do not sound as none", NONE, Due.fjord("fjord 2 1;rock 0 0;rock 1 0;sound 9;").heard(0, 9, what));
        }
    }

    /** Where it may CRACK next: of these the thinnest, of equal ones the first. */
    private static void heardWhereItMayCrack() {
        for (int thin = 0; thin < 4; thin++) {
            IceBridge x = pour(Due.fjord("fjord 4 1;frost 5-(column=" + thin + ");sound 3;pourer pw west plain pails 9;"), 0);
            is("the thinnest is " + thin, thin, x.heard(0, 3, 3));
        }
        IceBridge two = pour(Due.fjord("fjord 4 1;frost 5-(column=1)-(column=3);sound 3;pourer pw west plain pails 9;"), 0);
        is("of equal ones the first", 1, two.heard(0, 3, 3));
        IceBridge all = pour(Due.fjord("fjord 4 1;frost 5;sound 3;pourer pw west plain pails 9;"), 0);
        is("of all the first", 0, all.heard(0, 3, 3));
        IceBridge other = pour(Due.fjord("fjord 4 1;frost 5-(column=1);sound 3+(column=1);pourer pw west plain pails 9;"), 0);
        is("not one that sounds otherwise", 0, other.heard(0, 3, 3));
        IceBridge most = Due.fjord("fjord 2 1;frost 9;sound 3;pourer pw west plain pails 99;");
        for (int i = 0; i < 22; i++) {
            yes("pour", most.pour(0, i / 11, 0));
        }
        is("99 each", 0, most.heard(0, 3, 3));
        IceBridge rock = pour(Due.fjord("fjord 3 1;rock 0 0;frost 5;sound 3;pourer pw west plain pails 99;"), 0);
        is("a rock does not crack", 1, rock.heard(0, 3, 3));
    }

    private static void argumentsOfHeard() {
        IceBridge x = Due.fjord("fjord 10 6;sound column;");
        Due.ends("heard sound", 0, 9, sound -> x.heard(0, sound, 0));
        IceBridge rocks = Due.fjord("fjord 3 1;rock 0 0;sound 9*(column=2);");
        for (int what = 0; what < 4; what++) {
            is("-1 is no sound, of a rock either", NONE, rocks.heard(0, -1, what));
            is("10 is none, either", NONE, rocks.heard(0, 10, what));
        }
        Due.ends("heard row", 0, 5, row -> x.heard(row, 0, 0));
        Due.ends("heard what", 0, 3, what -> x.heard(0, 0, what));
    }

    // ---- VALUE, shares, LEAVES, promises 23 to 25

    private static void villages() {
        valueByPailsTogether();
        valueOfRowsAsTheyAre();
        valueOnTheBestRow();
        shares();
        leavesIfLess();
        leavesTheLeastSet();
    }

    /** The most worth that is CARRIED on a row that is BUILT with the pails they have left together. */
    private static void valueByPailsTogether() {
        IceBridge x = Due.fjord("fjord 2 1;pourer pa west plain pails 1;pourer pb east lover pails 1;pourer pc west child pails 2;"
            + load('f', "hearse", 2, 7) + load('g', "hearse", 4, 20) + load('h', "hearse", 5, 50));
        int[] want = {0, 0, 0, 7, 7, 7, 7, 27};
        for (int set = 0; set < 8; set++) {
            is("value of " + set, want[set], x.value(set));
        }
        yes("a pail", x.pour(2, 0, 0));
        int[] then = {0, 7, 7, 7, 7, 7, 7, 27};
        for (int set = 0; set < 8; set++) {
            is("2 fingers are there: value of " + set, then[set], x.value(set));
        }
        is("nothing is built", 2, x.count(9));
        Due.ends("value set", 0, 7, x::value);
        Due.ends("value set of none", 0, 0, set -> new IceBridge().value(set));
        IceBridge six = sixPourers();
        Due.ends("value set of six", 0, 63, six::value);
        is("five of six", 0, six.value(62));
        is("all six", 7, six.value(63));
    }

    /** A pail each, six CELLS. */
    private static IceBridge sixPourers() {
        StringBuilder text = new StringBuilder("fjord 6 1;" + load('f', "hearse", 2, 7));
        for (char name = 'a'; name < 'g'; name++) {
            text.append("pourer p").append(name).append(" west plain pails 1;");
        }
        return Due.fjord(text.toString());
    }

    /** Nothing for a set without pails: as the rows are. */
    private static void valueOfRowsAsTheyAre() {
        IceBridge x = Due.fjord("fjord 2 2;pourer pa west plain pails 1;pourer pb east plain pails 1;pourer pz west plain pails 0;"
            + "pourer pc west plain pails 2;" + load('f', "hearse", 2, 7) + load('g', "hearse", 4, 20));
        is("nobody, water", 0, x.value(0));
        is("none without pails, water", 0, x.value(4));
        yes("2", x.pour(0, 0, 0));
        is("one cell is water", 0, x.value(0));
        yes("2", x.pour(1, 1, 0));
        is("nobody", 7, x.value(0));
        is("none told", 7, x.value(4));
        is("none left", 7, x.value(7));
        is("two left: 4", 27, x.value(8));
        yes("over", x.over(0, 0));
        is("not over yet alone", 0, x.value(0));
        is("not over yet alone: 4", 20, x.value(8));
        x.hours(12);
        is("by day, too", 20, x.value(15));
        is("rocks, nobody", 27, Due.fjord("fjord 2 2;rock 0 1;rock 1 1;" + load('f', "hearse", 2, 7) + load('g', "hearse", 4, 20))
            .value(0));
    }

    private static void valueOnTheBestRow() {
        IceBridge x = Due.fjord("fjord 2 2;frost 2+row*3;pourer pa west plain pails 2;pourer pb west plain pails 1;"
            + load('f', "hearse", 5, 9) + load('g', "hearse", 2, 3));
        is("row 1 by two pails", 12, x.value(1));
        is("no row by one", 0, x.value(2));
        yes("a pail on row 0", x.pour(0, 0, 0));
        is("row 0 by one", 3, x.value(1));
        yes("a pail on row 1", x.pour(1, 0, 1));
        is("row 1 by one", 12, x.value(1));
        is("nobody", 0, x.value(0));
        IceBridge y = Due.fjord("fjord 2 2;frost 2;pourer pa west plain pails 8;" + load('f', "dance", 8, 1) + load('g', "dance", 8, 1));
        is("on one row, not on each", 1, y.value(1));
    }

    /** A share (0 to 999). */
    private static void shares() {
        IceBridge x = sixPourers();
        Due.ends("share of", 0, 5, pourer -> Due.orNone(x.share(pourer, 5)));
        Due.ends("share worth", 0, 999, worth -> Due.orNone(x.share(3, worth)));
        is("the last told", 999, x.pourer(3, 3));
        no("1000", x.share(3, 1000));
        no("-1", x.share(3, -1));
        is("stays", 999, x.pourer(3, 3));
        yes("0", x.share(3, 0));
        is("0", 0, x.pourer(3, 3));
        is("each its own", 5, x.pourer(5, 3));
        no("no pourer", new IceBridge().share(0, 5));
    }

    /** Whose shares, told by hand (0 at first), together are less than its VALUE. */
    private static void leavesIfLess() {
        IceBridge x = Due.fjord("fjord 2 1;pourer pa west plain pails 2;" + load('f', "hearse", 2, 7));
        is("0 at first", 1, x.leaves());
        int[] worths = {6, 7, 8, 999, 0, 1};
        int[] want = {1, NONE, NONE, NONE, 1, 1};
        for (int i = 0; i < worths.length; i++) {
            yes("share", x.share(0, worths[i]));
            is(worths[i] + " for 7", want[i], x.leaves());
        }
        IceBridge y = Due.fjord("fjord 2 1;pourer pa west plain pails 1;" + load('f', "hearse", 2, 7));
        is("0 for 0", NONE, y.leaves());
        IceBridge z = Due.fjord("fjord 2 1;pourer pa west plain pails 1;pourer pb west plain pails 1;" + load('f', "hearse", 2, 7));
        z.share(0, 3);
        z.share(1, 3);
        is("6 for 7", 3, z.leaves());
        z.share(1, 4);
        is("7 for 7", NONE, z.leaves());
        z.share(0, 2);
        is("6 for 7", 3, z.leaves());
    }

    /** The least set (as bits) of at least one POURER; NONE: none. */
    private static void leavesTheLeastSet() {
        IceBridge x = Due.fjord("fjord 2 1;pourer pa west plain pails 1;pourer pb west plain pails 1;pourer pc west plain pails 2;"
            + load('f', "hearse", 2, 7) + load('g', "hearse", 4, 20));
        is("a and b", 3, x.leaves());
        x.share(0, 7);
        is("c", 4, x.leaves());
        x.share(2, 7);
        is("all", 7, x.leaves());
        x.share(1, 12);
        is("26 for 27", 7, x.leaves());
        x.share(1, 13);
        is("27 for 27", NONE, x.leaves());
        is("all six", 63, sixPourers().leaves());
        String rocks = "fjord 2 1;rock 0 0;rock 1 0;" + load('f', "hearse", 2, 7);
        is("not nobody", NONE, Due.fjord(rocks).leaves());
        IceBridge y = Due.fjord(rocks + "pourer pa west plain pails 0;");
        is("one without pails", 1, y.leaves());
        y.share(0, 7);
        is("none", NONE, y.leaves());
    }

    // ---- STUMPS, FITS, SALTED, promises 26 to 28

    private static void stumps() {
        stumpsFrom0To99();
        nothingIsToldAnyMore();
        fitsFrom0To50();
        fitsByTheToldHour();
        fitsBehindItsMelting();
        fitsOnNoIce();
        argumentsOfFits();
        saltedHasNoFitAsItIs();
        saltedColumns();
    }

    private static void stumpsFrom0To99() {
        IceBridge x = Due.fjord("fjord 10 6;rock 3 3;melt 0;frost 9;");
        Due.ends("stump column", 0, 9, column -> Due.orNone(x.stump(column, 0, 5)));
        Due.ends("stump row", 0, 5, row -> Due.orNone(x.stump(0, row, 5)));
        Due.ends("stump thick", NONE, 99, -2, thick -> x.stump(1, 1, thick) ? 1 : -2);
        no("a rock", x.stump(3, 3, 5));
        no("a rock, nothing", x.stump(3, 3, NONE));
        yes("beside it", x.stump(3, 4, 5));
        is("99 was told last", 40, x.fits(1, 1, 0, 12, 0));
        no("100", x.stump(1, 1, 100));
        is("99 stays", 40, x.fits(1, 1, 0, 12, 0));
        no("-2", x.stump(1, 1, -2));
        is("99 still", 40, x.fits(1, 1, 0, 12, 0));
    }

    /** NONE: nothing is told any more. */
    private static void nothingIsToldAnyMore() {
        IceBridge x = Due.fjord("fjord 2 1;melt 0;");
        is("nothing yet", NONE, x.fits(0, 0, 0, 12, 0));
        yes("0 is something", x.stump(0, 0, 0));
        is("0", 1, x.fits(0, 0, 0, 12, 0));
        is("0 pails", 0, x.fits(0, 0, 0, 12, 1));
        is("not of the other", NONE, x.fits(1, 0, 0, 12, 0));
        yes("nothing", x.stump(0, 0, NONE));
        is("nothing", NONE, x.fits(0, 0, 0, 12, 0));
        is("nothing", NONE, x.fits(0, 0, 0, 12, 1));
        yes("nothing again", x.stump(0, 0, NONE));
        yes("4", x.stump(0, 0, 4));
        is("2 pails", 2, x.fits(0, 0, 0, 12, 1));
        x.hours(24);
        is("the next day, too", 2, x.fits(0, 0, 0, 12, 1));
        is("another fjord", 0, Due.read(x, "fjord 2 1;melt 0;"));
        is("nothing", NONE, x.fits(0, 0, 0, 12, 1));
    }

    private static void fit(String frost, int stump, int many, int least) {
        IceBridge x = Due.fjord("fjord 2 1;melt 0;frost " + frost + ";");
        yes("told", x.stump(1, 0, stump));
        is("fits of " + stump + " by " + frost, many, x.fits(1, 0, 0, 12, 0));
        is("least fit of " + stump + " by " + frost, least, x.fits(1, 0, 0, 12, 1));
    }

    /** Numbers of pails (0 to 50); 99 fingers at most. */
    private static void fitsFrom0To50() {
        fit("1", 0, 1, 0);
        fit("1", 1, 1, 1);
        fit("1", 49, 1, 49);
        fit("1", 50, 1, 50);
        fit("1", 51, NONE, NONE);
        fit("2", 97, NONE, NONE);
        fit("2", 98, 1, 49);
        fit("2", 99, 1, 50);
        fit("3", 99, 18, 33);
        fit("9", 98, NONE, NONE);
        fit("9", 99, 40, 11);
        fit("0", 0, 51, 0);
        fit("0", 1, NONE, NONE);
        fit("0-5", 0, 51, 0);
        fit("99", 9, 1, 1);
    }

    /** POURED (plainly) in a told HOUR of the night. */
    private static void fitsByTheToldHour() {
        for (int told = 0; told < 12; told++) {
            IceBridge x = Due.fjord("fjord 2 1;melt 0;frost 3*(hour=" + told + ")*(night=1);pourer ps west smith pails 9;");
            x.stump(0, 0, 3);
            is("not by night 0", NONE, x.fits(0, 0, told, 12, 0));
            x.hours(24 + 5);
            for (int hour = 0; hour < 12; hour++) {
                is("poured at " + hour + ", frost at " + told, hour == told ? 1 : NONE, x.fits(0, 0, hour, 12, 0));
            }
            x.stump(0, 0, 4);
            is("not by a smith", NONE, x.fits(0, 0, told, 12, 0));
        }
        IceBridge salt = Due.fjord("fjord 2 1;melt 0;frost 7;salt 0 0;");
        salt.stump(0, 0, 3);
        is("3 on salt", 1, salt.fits(0, 0, 0, 12, 1));
        salt.stump(0, 0, 7);
        is("7 beside salt alone", NONE, salt.fits(0, 0, 0, 12, 1));
    }

    /** At an HOUR of this day (12 to 23; behind its melting). */
    private static void fitsBehindItsMelting() {
        for (int melting = 11; melting < 24; melting++) {
            IceBridge x = Due.fjord("fjord 2 1;frost 5;melt 2*(hour=" + melting + ");");
            x.stump(0, 0, 3);
            for (int seen = 12; seen < 24; seen++) {
                is("seen at " + seen + " what melts in " + melting, melting >= 12 && seen >= melting ? 1 : NONE, x.fits(0, 0, 0, seen, 1));
            }
        }
        IceBridge y = Due.fjord("fjord 2 1;frost 2;melt 5-4*(hour=13);");
        y.stump(0, 0, 0);
        is("0, 2, 4 less 5", 3, y.fits(0, 0, 0, 12, 0));
        is("0, 2, 4, 6 less 6", 4, y.fits(0, 0, 0, 13, 0));
        y.stump(0, 0, 1);
        is("6 less 5", 3, y.fits(0, 0, 0, 12, 1));
        is("no 7", NONE, y.fits(0, 0, 0, 13, 1));
        y.stump(0, 0, 94);
        is("99 less 5", 50, y.fits(0, 0, 0, 12, 1));
        y.stump(0, 0, 95);
        is("no 100", NONE, y.fits(0, 0, 0, 12, 1));
        IceBridge z = Due.fjord("fjord 2 1;frost 9;melt 9;");
        z.stump(0, 0, 0);
        is("99 less 99 by 22", 51, z.fits(0, 0, 0, 22, 0));
        is("less 90 by 21", 11, z.fits(0, 0, 0, 21, 0));
    }

    /** On no ice: what is there does not count. */
    private static void fitsOnNoIce() {
        IceBridge x = Due.fjord("fjord 2 1;frost 5;melt 1;pourer pw west plain pails 9;");
        x.stump(0, 0, 4);
        is("one pail", 1, x.fits(0, 0, 0, 12, 1));
        yes("ice", x.pour(0, 0, 0));
        is("one pail", 1, x.fits(0, 0, 0, 12, 1));
        x.hours(15);
        is("by day, too", 1, x.fits(0, 0, 0, 12, 1));
        is("ice is not changed", 2, x.cell(0, 0, 0));
    }

    private static void argumentsOfFits() {
        IceBridge x = Due.fjord("fjord 10 6;rock 5 5;melt 0;frost 0;");
        for (int i = 0; i < 60; i++) {
            Due.is("told", i != 55, x.stump(i % 10, i / 10, 0));
        }
        Due.ends("fits column", 0, 9, column -> x.fits(column, 0, 0, 12, 0));
        Due.ends("fits row", 0, 5, row -> x.fits(0, row, 0, 12, 0));
        Due.ends("fits poured", 0, 11, poured -> x.fits(0, 0, poured, 12, 0));
        Due.ends("fits seen", 12, 23, seen -> x.fits(0, 0, 0, seen, 0));
        Due.ends("fits what", 0, 1, what -> x.fits(0, 0, 0, 12, what));
        is("a rock", NONE, x.fits(5, 5, 0, 12, 0));
        Due.ends("salted row", 0, 5, row -> x.salted(row, 0, 12));
        Due.ends("salted poured", 0, 11, poured -> x.salted(0, poured, 12));
        Due.ends("salted seen", 12, 23, seen -> x.salted(0, 0, seen));
    }

    /** SALTED: CELLS that are told, have no fit as they are and have one if they were salt. */
    private static void saltedHasNoFitAsItIs() {
        IceBridge x = Due.fjord("fjord 4 1;salt 1 0;rock 2 0;frost 6*(hour=0)+2*(hour=1)+(hour=2);melt (hour=13)*2;");
        is("nothing is told", 0, x.salted(0, 0, 12));
        int[] stumps = {0, 1, 2, 3, 5, 6, 9, 12, 45, 51, 99};
        int[] six = {0, 0, 0, 1, 0, 0, 1, 0, 1, 1, 0};
        int[] two = {0, 1, 0, 1, 1, 0, 1, 0, 1, 0, 0};
        for (int i = 0; i < stumps.length; i++) {
            x.stump(0, 0, stumps[i]);
            x.stump(1, 0, stumps[i]);
            is("6 or 3 for " + stumps[i], six[i], x.salted(0, 0, 12));
            is("2 or 1 for " + stumps[i], two[i], x.salted(0, 1, 12));
            is("1 or none for " + stumps[i], 0, x.salted(0, 2, 12));
            is("none for " + stumps[i], 0, x.salted(0, 3, 12));
            is("6 or 3, less 2, for " + stumps[i], sixLess2(stumps[i]), x.salted(0, 0, 13));
        }
        x.stump(0, 0, NONE);
        is("nothing is told any more", 0, x.salted(0, 0, 12));
    }

    /** 99 fingers at most, so that 97 fits, too. */
    private static int sixLess2(int stump) {
        boolean plain = stump == 0 || stump == 97 || (stump + 2) % 6 == 0 && stump + 2 < 99;
        boolean salt = stump == 0 || (stump + 2) % 3 == 0 && stump + 2 <= 99;
        return salt && !plain ? 1 : 0;
    }

    /** As bits of columns. */
    private static void saltedColumns() {
        IceBridge x = Due.fjord("fjord 10 2;frost 6;melt 0;");
        for (int column = 0; column < 10; column++) {
            x.stump(column, 0, column % 3 == 0 ? 3 : 6);
            x.stump(column, 1, 3);
        }
        is("0, 3, 6, 9", 1 + 8 + 64 + 512, x.salted(0, 0, 12));
        is("all", 1023, x.salted(1, 0, 12));
    }

    // ---- WINTER, promise 29

    private static void winters() {
        winterDraws();
        winterHalvesGrips();
        winterBehindAnHour();
        winterNightsFromThisOne();
        winterBuiltAtHour0();
        winterPailsOfAll();
        winterOnWater();
        winterOnTheBestRow();
        winterGreatest();
        argumentsOfWinter();
    }

    private static int mildNights(int seed, int nights, int mild) {
        BigInteger g = BigInteger.valueOf(seed);
        int many = 0;
        for (int i = 0; i < nights; i++) {
            g = g.multiply(BigInteger.valueOf(1103515245)).add(BigInteger.valueOf(12345)).mod(BigInteger.valueOf(2147483648L));
            many += g.divide(BigInteger.valueOf(65536)).mod(BigInteger.TEN).intValue() < mild ? 1 : 0;
        }
        return many;
    }

    /** Two pails are 2 on each of two CELLS, 1 if the night is mild. */
    private static IceBridge two(int mild) {
        return Due.fjord("fjord 2 1;frost 2;pourer pw west plain pails 2;mild " + mild + ";" + load('f', "hearse", 2, 1)
            + load('g', "hearse", 1, 1) + load('h', "hearse", 3, 1));
    }

    /** A DRAW below 10: if it is below mild. */
    private static void winterDraws() {
        for (int mild = 0; mild <= 10; mild++) {
            IceBridge x = two(mild);
            for (int seed : new int[] {0, 1, 2, 77, 5000, 9998, 9999}) {
                for (int nights : new int[] {1, 2, 3, 59, 60}) {
                    int half = mildNights(seed, nights, mild);
                    String call = "seed " + seed + ", " + nights + " nights, mild " + mild;
                    is(call, nights - half, Due.winter(x, seed, nights, 0, 0));
                    is(call + ", 1", nights, Due.winter(x, seed, nights, 1, 0));
                    is(call + ", 3", 0, Due.winter(x, seed, nights, 2, 0));
                    is(call + ", greatest", half == nights ? 1 : 2, Due.winter(x, seed, nights, NONE, 0));
                }
            }
        }
        is("the first draw of 0 is 0: below 1", 0, Due.winter(two(1), 0, 1, 0, 0));
        is("not below 0", 1, Due.winter(two(0), 0, 1, 0, 0));
        is("mild 10: always", 0, Due.winter(two(10), 4321, 60, 0, 0));
    }

    private static int mildThickness(String text) {
        return Due.winter(Due.fjord("fjord 2 1;pourer pw west plain pails 2;mild 10;" + text), 0, 1, NONE, 0);
    }

    /** All GRIPS of that NIGHT are half, cut. */
    private static void winterHalvesGrips() {
        is("9", 4, mildThickness("frost 9;"));
        is("8", 4, mildThickness("frost 8;"));
        is("99", 4, mildThickness("frost 99;"));
        is("2", 1, mildThickness("frost 2;"));
        is("1", 0, mildThickness("frost 1;"));
        is("0", 0, mildThickness("frost 0-9;"));
        is("9 on salt: 4, 2", 2, mildThickness("frost 9;salt 0 0;salt 1 0;"));
        is("7 on salt: 3, 1", 1, mildThickness("frost 7;salt 0 0;salt 1 0;"));
        is("3 on salt: 1, 0", 0, mildThickness("frost 3;salt 0 0;salt 1 0;"));
        is("rocks", 99, mildThickness("rock 0 0;rock 1 0;"));
        is("the first cell", 8, mildThickness("frost 9;rock 1 0;"));
        is("the last cell", 8, mildThickness("frost 9;rock 0 0;"));
        is("each row", 12, Due.winter(Due.fjord("fjord 10 6;frost 9;pourer pw west plain pails 30;mild 10;"), 0, 1, NONE, 0));
    }

    private static int behind(String melt, int needs, int hour) {
        return Due.winter(Due.fjord("fjord 2 1;frost 4;pourer pw west plain pails 2;melt " + melt + ";" + load('f', "hearse", needs, 1)),
            0, 1, 0, hour);
    }

    /** Behind an HOUR (0 to 23) of theirs: it has melted then. */
    private static void winterBehindAnHour() {
        for (int hour = 0; hour < 24; hour++) {
            int thick = Math.max(0, 4 - Math.max(0, hour - 11));
            for (int needs = 1; needs <= 5; needs++) {
                is("4 less 1 an hour, behind " + hour + ", for " + needs, thick >= needs ? 1 : 0, behind("1", needs, hour));
            }
        }
        is("behind 22", 1, behind("(hour=23)", 4, 22));
        is("behind 23", 0, behind("(hour=23)", 4, 23));
        is("behind 12", 0, behind("(hour=12)", 4, 12));
        is("behind 11", 1, behind("(hour=12)", 4, 11));
        is("never by night", 1, behind("9*(hour<12)", 4, 23));
        is("melt below 0 is none", 1, behind("0-9", 4, 23));
        is("melt above 9 is 9", 0, behind("99", 1, 12));
        is("one cell alone", 0, behind("column*9", 4, 12));
        is("the other alone", 0, behind("9-column*9", 4, 12));
        is("to what it needs", 1, behind("(hour=15)*3", 1, 23));
        is("a finger less", 0, behind("(hour=15)*4", 1, 23));
    }

    /** So many NIGHTS (1 to 60) from this one on. */
    private static void winterNightsFromThisOne() {
        IceBridge x = Due.fjord("fjord 2 1;frost 2*(night=3)+2*(night=61);melt 0;pourer pw west plain pails 2;" + load('f', "hearse", 2, 1));
        is("nights 0 to 2", 0, Due.winter(x, 0, 3, 0, 0));
        is("nights 0 to 3", 1, Due.winter(x, 0, 4, 0, 0));
        is("nights 0 to 59", 1, Due.winter(x, 0, 60, 0, 0));
        x.hours(24);
        is("nights 1 and 2", 0, Due.winter(x, 0, 2, 0, 0));
        is("nights 1 to 3", 1, Due.winter(x, 0, 3, 0, 0));
        is("nights 1 to 60", 1, Due.winter(x, 0, 60, 0, 0));
        x.hours(24);
        is("nights 2 to 61", 2, Due.winter(x, 0, 60, 0, 0));
        x.hours(24 + 15);
        is("night 3, by its day", 1, Due.winter(x, 0, 1, 0, 23));
        x.hours(8);
        is("up to 23", 1, Due.winter(x, 0, 1, 0, 23));
        x.hours(1);
        is("night 4", 0, Due.winter(x, 0, 1, 0, 0));
        IceBridge y = Due.fjord("fjord 2 1;frost 2;melt 9*(night=1)*(hour=12);pourer pw west plain pails 2;" + load('f', "hearse", 2, 1));
        is("it melts by its night", 2, Due.winter(y, 0, 3, 0, 12));
        y.hours(24);
        is("this one", 0, Due.winter(y, 0, 1, 0, 12));
    }

    /** BUILT at HOUR 0. */
    private static void winterBuiltAtHour0() {
        IceBridge x = Due.fjord("fjord 2 1;frost 2*(hour=0)+5*(hour=5)+7*(hour=13);pourer pw west plain pails 2;" + load('f', "hearse", 2, 1));
        for (int hours : new int[] {1, 4, 8}) {
            is("2", 2, Due.winter(x, 0, 1, NONE, 0));
            is("once", 1, Due.winter(x, 0, 1, 0, 0));
            x.hours(hours);
        }
        is("2 by day", 2, Due.winter(x, 0, 1, NONE, 0));
    }

    /** With the pails of all. */
    private static void winterPailsOfAll() {
        String text = "fjord 4 1;frost 3;melt 0;pourer pa west child pails 1;pourer pb east lover pails 1;pourer pc west plain pails 0;"
            + "pourer pd east smith pails ";
        is("one too few", 0, Due.winter(Due.fjord(text + "1;"), 0, 1, NONE, 0));
        is("as many as cells", 3, Due.winter(Due.fjord(text + "2;"), 0, 1, NONE, 0));
        IceBridge x = Due.fjord(text + "2;");
        yes("a pail", x.pour(0, 0, 0));
        yes("another", x.pour(1, 3, 0));
        is("not those left alone", 3, Due.winter(x, 0, 1, NONE, 0));
        is("nobody", 0, Due.winter(new IceBridge(), 0, 1, NONE, 0));
        is("all six", 2, Due.winter(sixPourers(), 0, 1, NONE, 0));
        IceBridge most = Due.fjord("fjord 6 1;frost 9;pourer pa west plain pails 65;");
        is("65", 90, Due.winter(most, 0, 1, NONE, 0));
        is("66", 99, Due.winter(Due.fjord("fjord 6 1;frost 9;pourer pa west plain pails 60;pourer pb west plain pails 6;"),
            0, 1, NONE, 0));
    }

    /** Each on water without ice; nothing goes over; nothing is done by it. */
    private static void winterOnWater() {
        IceBridge x = two(0);
        yes("2", x.pour(0, 0, 0));
        yes("2", x.pour(0, 1, 0));
        yes("over", x.over(0, 0));
        is("built on the ice", 4, x.built(0, 2, 0));
        is("2 as on water", 2, Due.winter(x, 0, 2, NONE, 0));
        is("3 is not borne", 0, Due.winter(x, 0, 60, 2, 0));
        is("one that is over is borne", 60, Due.winter(x, 0, 60, 0, 11));
        is("ice stays", 4, x.count(9));
        is("hour stays", 0, x.count(4) + x.count(5));
        is("melted nothing", 0, x.count(7));
        is("what can be undone stays", 3, x.count(10));
    }

    /** The BEST row is BUILT: that row alone is asked. */
    private static void winterOnTheBestRow() {
        String text = "fjord 2 2;frost 4-row;melt 9-row*9;pourer pw west plain pails 2;" + load('f', "hearse", 3, 1);
        is("row 0 by 4", 1, Due.winter(Due.fjord(text), 0, 1, 0, 11));
        is("melts though row 1 would not", 0, Due.winter(Due.fjord(text), 0, 1, 0, 12));
        String other = "fjord 2 2;frost 3+row;melt 9-row*9;pourer pw west plain pails 2;" + load('f', "hearse", 3, 1);
        is("row 1 by 4", 1, Due.winter(Due.fjord(other), 0, 1, 0, 23));
        String alike = "fjord 2 2;frost 4;melt row*9;pourer pw west plain pails 2;" + load('f', "hearse", 4, 1);
        is("the first of equal ones", 1, Due.winter(Due.fjord(alike), 0, 1, 0, 23));
        String fewer = "fjord 4 2;rock 0 1;rock 1 1;frost 4-2*row;melt 9*(row=0);pourer pw west plain pails 4;" + load('f', "hearse", 4, 1);
        is("4 by 4 each, the first melts", 0, Due.winter(Due.fjord(fewer), 0, 1, 0, 12));
        String rocks = "fjord 2 2;rock 0 1;rock 1 1;pourer pw west plain pails 9;" + load('f', "horse", 50, 1);
        is("rocks bear all", 60, Due.winter(Due.fjord(rocks), 0, 60, 0, 23));
        is("and don't melt", 60, Due.winter(Due.fjord(rocks + "melt 9;"), 0, 60, 0, 23));
        String among = "fjord 3 1;rock 1 0;frost 4;melt 9*(column=1);pourer pw west plain pails 2;" + load('f', "foot", 4, 1);
        is("nor does one among cells", 1, Due.winter(Due.fjord(among), 0, 1, 0, 23));
        is("99", 99, Due.winter(Due.fjord(rocks), 0, 60, NONE, 23));
    }

    /** The greatest THICKNESS a row was BUILT to. */
    private static void winterGreatest() {
        IceBridge more = Due.fjord("fjord 2 1;frost 1+night;pourer pw west plain pails 2;");
        is("the last of 3", 3, Due.winter(more, 0, 3, NONE, 0));
        is("the first", 1, Due.winter(more, 0, 1, NONE, 0));
        is("9 at most by a pail", 9, Due.winter(more, 0, 60, NONE, 0));
        IceBridge less = Due.fjord("fjord 2 1;frost 9-night;pourer pw west plain pails 2;");
        is("the first of 60", 9, Due.winter(less, 0, 60, NONE, 0));
        IceBridge middle = Due.fjord("fjord 2 1;frost 3+(night=1)*2;pourer pw west plain pails 2;");
        is("the second of 3", 5, Due.winter(middle, 0, 3, NONE, 23));
        is("none", 0, Due.winter(Due.fjord("fjord 2 1;pourer pw west plain pails 1;"), 0, 60, NONE, 0));
    }

    private static void argumentsOfWinter() {
        IceBridge x = two(5);
        Due.ends("winter seed", 0, 9999, THROWN, seed -> Due.winter(x, seed, 1, 0, 0));
        Due.ends("winter nights", 1, 60, THROWN, nights -> Due.winter(x, 0, nights, 0, 0));
        Due.ends("winter load", NONE, 2, THROWN, load -> Due.winter(x, 0, 1, load, 0));
        Due.ends("winter hour", 0, 23, THROWN, hour -> Due.winter(x, 0, 1, 0, hour));
        Due.ends("winter seed, no load", 0, 9999, THROWN, seed -> Due.winter(x, seed, 1, NONE, 0));
        Due.ends("winter nights, no load", 1, 60, THROWN, nights -> Due.winter(x, 0, nights, NONE, 0));
        Due.ends("winter hour, no load", 0, 23, THROWN, hour -> Due.winter(x, 0, 1, NONE, hour));
        is("no load at all", THROWN, Due.winter(new IceBridge(), 0, 1, 0, 0));
    }
}
