import java.util.Arrays;
import java.util.NoSuchElementException;

/** A fjord crossed by bridges of ice that are poured each night; ../shared/DOC.md says what it does. */
public final class IceBridge {
    public static final int NONE = -1;

    private static final int MOST_SIGNS = 1000;
    private static final int MOST_COLUMNS = 10;
    private static final int MOST_ROWS = 6;
    private static final int MOST_CELLS = 60;
    private static final int MOST_POURERS = 6;
    private static final int MOST_LOADS = 7;
    private static final int MOST_SETS = 128;
    private static final int MOST_MARKS = 4;
    private static final int MOST_UNDONE = 20;
    private static final int MOST_THICK = 99;
    private static final int MOST_PAILS = 999;
    private static final int MOST_FIT = 50;
    private static final int MOST_DEPTH = 5;
    private static final int CANNOT = 99;
    private static final int NOON = 12;
    private static final int DAY = 24;

    private static final int ROCK = 1;
    private static final int SALT = 2;

    private static final int WEST = 0;
    private static final int EAST = 1;

    private static final int LOVER = 1;
    private static final int CHILD = 2;
    private static final int SMITH = 3;
    private static final int CHILD_REACH = 3;

    private static final int HORSE = 1;
    private static final int SLEDGE = 2;
    /** By the kinds of loads: foot, horse, sledge, hearse, dance. */
    private static final int[] WEARS = {1, 2, 1, 0, 3};

    private static final int TOKEN_END = 0;
    private static final int TOKEN_WRONG = 1;
    private static final int TOKEN_WORD = 2;
    private static final int TOKEN_NUMBER = 3;
    private static final int TOKEN_SIGN = 4;
    private static final int WORD_LENGTH = 8;
    private static final int NUMBER_LENGTH = 4;

    private static final int FAULT_MISPLACED = 1;
    private static final int FAULT_TOLD_ALREADY = 3;
    private static final int FAULT_NUMBER = 4;
    private static final int FAULT_TOO_MANY = 5;

    private static final int GROUP_RESERVED = 0;
    private static final int GROUP_LAW = 1;
    private static final int GROUP_SIDE = 2;
    private static final int GROUP_POURER_KIND = 3;
    private static final int GROUP_LOAD_KIND = 4;
    private static final int GROUP_FREE = 5;

    private static final int LAW_FROST = 0;
    private static final int LAW_MELT = 1;
    private static final int LAW_SOUND = 2;
    private static final int LAW_FIRST = 3;
    private static final int MILD_BIT = 16;

    private static final int FACT_HOUR = 0;
    private static final int FACT_NIGHT = 1;
    private static final int FACT_COLUMN = 2;
    private static final int FACT_ROW = 3;
    private static final int FACT_CURRENT = 4;
    private static final int FACT_THICK = 5;
    private static final int FACT_HEAVY = 6;
    private static final int FACT_WORTH = 7;
    private static final int FACT_WEAR = 8;
    private static final int FACTS = 9;
    /** The facts that each law may name, as bits, by the laws' numbers. */
    private static final int[] LAW_FACTS = {0x1F, 0x1F, 0x3F, 0x1C3};

    /** Joining signs come in pairs, a pair for each level of binding, so that (sign - AND) / 2 is its level. */
    private static final int SIGN_AND = 10;
    private static final int SIGN_OR = 11;
    private static final int SIGN_LESS = 12;
    private static final int SIGN_EQUAL = 13;
    private static final int SIGN_PLUS = 14;
    private static final int SIGN_MINUS = 15;
    private static final int SIGN_TIMES = 16;
    private static final int SIGN_NOT = 18;
    private static final int LEVEL_COMPARE = 1;
    private static final int LEVEL_PART = 4;
    /** Five levels of brackets, each with four joining signs open, leave at most 21 numbers waiting. */
    private static final int STACK = 32;

    private static final Word[] WORDS = Word.values();

    private final Tape tape = new Tape();
    private final Reader reader = new Reader(tape);
    private final Ice ice = new Ice(new Fjord(2, 1));
    private final Deeds deeds = new Deeds();
    private final Yard yard = new Yard(ice.told);
    private final Carriage carriage = new Carriage();
    private final Ice[] marks = new Ice[MOST_MARKS];

    public IceBridge() {
    }

    public int feed(long a, long b, long c) {
        tape.append(a);
        tape.append(b);
        tape.append(c);
        return tape.length;
    }

    public int fjord() {
        int fault = reader.read();
        Fjord told = reader.told;
        tape.empty();
        if (fault == 0 && told != null) {
            ice.begin(told);
            deeds.forget();
        }
        return fault;
    }

    public int cell(int column, int row, int what) {
        Fjord told = ice.told;
        if (!told.hasCell(column, row)) {
            return NONE;
        }
        int cell = cellAt(column, row);
        switch (what) {
            case 0: return ice.thick[cell];
            case 1: return told.ground[cell];
            case 2: return told.current[cell];
            case 3: return told.gripAt(cell, ice.hour, ice.night);
            default: return NONE;
        }
    }

    public int pourer(int pourer, int what) {
        Fjord told = ice.told;
        if (!told.hasPourer(pourer)) {
            return NONE;
        }
        switch (what) {
            case 0: return told.pourerSide[pourer];
            case 1: return told.pourerKind[pourer];
            case 2: return ice.left[pourer];
            case 3: return ice.shares[pourer];
            default: return NONE;
        }
    }

    public int load(int load, int what) {
        Fjord told = ice.told;
        if (!told.hasLoad(load)) {
            return NONE;
        }
        switch (what) {
            case 0: return told.loadKind[load];
            case 1: return told.loadNeeds[load];
            case 2: return told.loadWorth[load];
            case 3: return ice.isGone(load) ? 1 : 0;
            default: return NONE;
        }
    }

    public boolean pour(int pourer, int column, int row) {
        if (!ice.mayPour(pourer, column, row)) {
            return false;
        }
        deeds.keepPail(pourer, row, ice);
        ice.pourPail(pourer, cellAt(column, row));
        return true;
    }

    public boolean over(int load, int row) {
        if (!ice.mayGo(load, row)) {
            return false;
        }
        deeds.keepLoad(load, row, ice);
        ice.goOver(load, row);
        return true;
    }

    public boolean undo() {
        return deeds.takeBack(ice);
    }

    public int hours(int many) {
        if (many < 1 || many > 1000) {
            return NONE;
        }
        for (int i = 0; i < many; i++) {
            ice.passHour();
        }
        deeds.forget();
        return ice.hour + DAY * ice.night;
    }

    public int thin(int row) {
        return ice.told.hasRow(row) ? ice.thinnest(row) : NONE;
    }

    public int until(int load, int row) {
        Fjord told = ice.told;
        if (!told.hasLoad(load) || !told.hasRow(row)) {
            return NONE;
        }
        int least = DAY;
        for (int column = 0; column < told.columns; column++) {
            least = Math.min(least, ice.hoursAtLeast(cellAt(column, row), told.loadNeeds[load]));
        }
        return least;
    }

    public int carried(int row, int what) {
        if (!ice.told.hasRow(row)) {
            return NONE;
        }
        carriage.choose(ice, ice.thinnest(row));
        return carriage.answer(what);
    }

    public int built(int row, int pails, int what) {
        if (!ice.told.hasRow(row) || pails < 0 || pails > MOST_PAILS) {
            return NONE;
        }
        yard.measure(ice);
        int thickness = yard.thicknessOf(row, pails);
        switch (what) {
            case 0: return thickness;
            case 1: return yard.pailsFor(row, thickness);
            default: return NONE;
        }
    }

    public int best(int pails) {
        if (pails < 0 || pails > MOST_PAILS) {
            return NONE;
        }
        yard.measure(ice);
        return yard.bestRow(pails);
    }

    public int half(int side, int row) {
        if (!isSide(side) || !ice.told.hasRow(row)) {
            return NONE;
        }
        yard.measure(ice);
        return yard.pailsOfHalf(side, row);
    }

    public int rests(int misfit, int what) {
        if (!isMisfit(misfit) || what < NONE) {
            return NONE;
        }
        yard.measure(ice);
        int found = 0;
        for (int west = 0; west < ice.told.rows; west++) {
            for (int east = 0; east < ice.told.rows; east++) {
                if (!yard.isRest(west, east, misfit)) {
                    continue;
                }
                if (found == what) {
                    return 8 * west + east;
                }
                found++;
            }
        }
        return what == NONE ? found : NONE;
    }

    public int guess(int side, int set, int misfit, int what) {
        boolean seen = set >= 1 && set < (1 << ice.told.rows);
        if (!isSide(side) || !seen || !isMisfit(misfit)) {
            return NONE;
        }
        yard.measure(ice);
        int row = yard.safestRow(side, set, misfit);
        switch (what) {
            case 0: return row;
            case 1: return yard.worstPay(side, row, set, misfit);
            default: return NONE;
        }
    }

    public int queue(int row, int what) {
        if (!ice.told.hasRow(row)) {
            return NONE;
        }
        carriage.lineUp(ice, ice.thinnest(row));
        return carriage.answer(what);
    }

    public int toll(int load, int row) throws NoSuchElementException {
        if (!ice.mayGo(load, row)) {
            throw new NoSuchElementException();
        }
        yard.measure(ice);
        return yard.pailsToMend(row, ice.told.wearOf(load));
    }

    public int sound(int column, int row) {
        return ice.told.hasCell(column, row) ? ice.soundAt(cellAt(column, row)) : NONE;
    }

    public int heard(int row, int sound, int what) {
        if (!ice.told.hasRow(row) || sound < 0 || sound > 9 || what < 0 || what > 3) {
            return NONE;
        }
        int first = NONE;
        int last = NONE;
        int many = 0;
        int crack = NONE;
        int thinnest = MOST_THICK + 1;
        for (int column = 0; column < ice.told.columns; column++) {
            int cell = cellAt(column, row);
            if (ice.soundAt(cell) != sound) {
                continue;
            }
            first = many == 0 ? column : first;
            last = column;
            many++;
            if (ice.thick[cell] < thinnest) {
                thinnest = ice.thick[cell];
                crack = column;
            }
        }
        if (many == 0) {
            return NONE;
        }
        return what == 0 ? first : what == 1 ? last : what == 2 ? many : crack;
    }

    public int value(int set) {
        if (set < 0 || set >= (1 << ice.told.pourers)) {
            return NONE;
        }
        yard.measure(ice);
        return valueOf(set);
    }

    public boolean share(int pourer, int worth) {
        if (!ice.told.hasPourer(pourer) || worth < 0 || worth > 999) {
            return false;
        }
        ice.shares[pourer] = worth;
        return true;
    }

    public int leaves() {
        yard.measure(ice);
        for (int set = 1; set < (1 << ice.told.pourers); set++) {
            if (ice.sharesOf(set) < valueOf(set)) {
                return set;
            }
        }
        return NONE;
    }

    public boolean stump(int column, int row, int thick) {
        if (!ice.told.hasCell(column, row) || thick < NONE || thick > MOST_THICK) {
            return false;
        }
        int cell = cellAt(column, row);
        if (ice.told.ground[cell] == ROCK) {
            return false;
        }
        ice.stumps[cell] = thick;
        return true;
    }

    public int fits(int column, int row, int poured, int seen, int what) {
        if (!ice.told.hasCell(column, row) || !isNightHour(poured) || !isDayHour(seen)) {
            return NONE;
        }
        int cell = cellAt(column, row);
        int grip = ice.told.gripAt(cell, poured, ice.night);
        int many = ice.fitsOf(cell, grip, seen);
        if (many == 0) {
            return NONE;
        }
        switch (what) {
            case 0: return many;
            case 1: return ice.leastFit(cell, grip, seen);
            default: return NONE;
        }
    }

    public int salted(int row, int poured, int seen) {
        if (!ice.told.hasRow(row) || !isNightHour(poured) || !isDayHour(seen)) {
            return NONE;
        }
        int bits = 0;
        for (int column = 0; column < ice.told.columns; column++) {
            int cell = cellAt(column, row);
            int plainGrip = ice.told.gripAt(cell, poured, ice.night);
            int saltGrip = ice.told.frostAt(cell, poured, ice.night) / 2;
            if (ice.fitsOf(cell, plainGrip, seen) == 0 && ice.fitsOf(cell, saltGrip, seen) > 0) {
                bits |= 1 << column;
            }
        }
        return bits;
    }

    public int winter(int seed, int nights, int load, int hour) throws NoSuchElementException {
        boolean drawn = seed >= 0 && seed <= 9999 && nights >= 1 && nights <= 60;
        boolean asked = (load == NONE || ice.told.hasLoad(load)) && hour >= 0 && hour < DAY;
        if (!drawn || !asked) {
            throw new NoSuchElementException();
        }
        long g = seed;
        int bearing = 0;
        int greatest = 0;
        for (int i = 0; i < nights; i++) {
            g = (g * 1103515245L + 12345L) % 2147483648L;
            boolean mild = g / 65536L % 10L < ice.told.mild;
            int night = ice.night + i;
            yard.measureWater(ice.told, night, mild);
            int row = yard.bestRow(ice.told.pailsOfAll());
            int thickness = yard.thicknessOf(row, ice.told.pailsOfAll());
            greatest = Math.max(greatest, thickness);
            if (load != NONE && yard.bearsBehind(load, row, thickness, hour, night)) {
                bearing++;
            }
        }
        return load == NONE ? greatest : bearing;
    }

    public boolean mark(int mark, boolean back) {
        if (mark < 0 || mark >= MOST_MARKS) {
            return false;
        }
        Ice laid = marks[mark];
        if (back) {
            if (laid == null) {
                return false;
            }
            ice.copyFrom(laid);
            deeds.forget();
            return true;
        }
        if (laid == null) {
            laid = new Ice(ice.told);
            marks[mark] = laid;
        }
        laid.copyFrom(ice);
        return true;
    }

    public int count(int what) {
        Fjord told = ice.told;
        switch (what) {
            case 0: return told.columns;
            case 1: return told.rows;
            case 2: return told.pourers;
            case 3: return told.loads;
            case 4: return ice.hour;
            case 5: return ice.night;
            case 6: return ice.frozen;
            case 7: return ice.melted;
            case 8: return ice.worn;
            case 9: return ice.thickInAll();
            case 10: return deeds.many;
            case 11: return told.mild;
            case 12: return tape.length;
            default: return NONE;
        }
    }

    /** The yard must have measured the ice: leaves() asks for many sets on one measure. */
    private int valueOf(int set) {
        int pails = ice.pailsOf(set);
        int row = yard.bestRow(pails);
        carriage.weighSets(ice, yard.thicknessOf(row, pails));
        return carriage.worth;
    }

    private static int cellAt(int column, int row) {
        return row * MOST_COLUMNS + column;
    }

    private static boolean isSide(int side) {
        return side == WEST || side == EAST;
    }

    private static boolean isMisfit(int misfit) {
        return misfit >= 0 && misfit <= 99;
    }

    private static boolean isNightHour(int hour) {
        return hour >= 0 && hour < NOON;
    }

    private static boolean isDayHour(int hour) {
        return hour >= NOON && hour < DAY;
    }

    /** The words that the language knows; a word is compared by its code, so that reading makes no texts. */
    private enum Word {
        FJORD("fjord", GROUP_RESERVED, 0, NONE),
        ROCKS("rock", GROUP_RESERVED, 0, NONE),
        SALTS("salt", GROUP_RESERVED, 0, NONE),
        CURRENT("current", GROUP_RESERVED, 0, FACT_CURRENT),
        AT("at", GROUP_RESERVED, 0, NONE),
        POURER("pourer", GROUP_RESERVED, 0, NONE),
        PAILS("pails", GROUP_RESERVED, 0, NONE),
        LOAD("load", GROUP_RESERVED, 0, NONE),
        HEAVY("heavy", GROUP_RESERVED, 0, FACT_HEAVY),
        WORTH("worth", GROUP_RESERVED, 0, FACT_WORTH),
        FROST("frost", GROUP_LAW, LAW_FROST, NONE),
        MELT("melt", GROUP_LAW, LAW_MELT, NONE),
        SOUND("sound", GROUP_LAW, LAW_SOUND, NONE),
        FIRST("first", GROUP_LAW, LAW_FIRST, NONE),
        MILD("mild", GROUP_RESERVED, 0, NONE),
        WEST_SIDE("west", GROUP_SIDE, WEST, NONE),
        EAST_SIDE("east", GROUP_SIDE, EAST, NONE),
        PLAIN("plain", GROUP_POURER_KIND, 0, NONE),
        LOVERS("lover", GROUP_POURER_KIND, LOVER, NONE),
        CHILDREN("child", GROUP_POURER_KIND, CHILD, NONE),
        SMITHS("smith", GROUP_POURER_KIND, SMITH, NONE),
        FOOT("foot", GROUP_LOAD_KIND, 0, NONE),
        HORSES("horse", GROUP_LOAD_KIND, HORSE, NONE),
        SLEDGES("sledge", GROUP_LOAD_KIND, SLEDGE, NONE),
        HEARSE("hearse", GROUP_LOAD_KIND, 3, NONE),
        DANCE("dance", GROUP_LOAD_KIND, 4, NONE),
        NOT("not", GROUP_RESERVED, 0, NONE),
        AND("and", GROUP_RESERVED, 0, NONE),
        OR("or", GROUP_RESERVED, 0, NONE),
        HOUR("hour", GROUP_FREE, 0, FACT_HOUR),
        NIGHT("night", GROUP_FREE, 0, FACT_NIGHT),
        COLUMN("column", GROUP_FREE, 0, FACT_COLUMN),
        ROW("row", GROUP_FREE, 0, FACT_ROW),
        THICK("thick", GROUP_FREE, 0, FACT_THICK),
        WEAR("wear", GROUP_FREE, 0, FACT_WEAR);

        final long code;
        final int group;
        final int number;
        final int fact;

        Word(String spelled, int group, int number, int fact) {
            long letters = 0;
            for (int i = 0; i < spelled.length(); i++) {
                letters = letters * 27 + (spelled.charAt(i) - 'a' + 1);
            }
            this.code = letters;
            this.group = group;
            this.number = number;
            this.fact = fact;
        }
    }

    /** The signs that were fed, and the token in hand while they are read. */
    private static final class Tape {
        private final char[] signs = new char[MOST_SIGNS];
        private int length;
        private int next;
        private int sort;
        private int place;
        private int number;
        private long code;
        private Word word;

        void append(long bytes) {
            for (int shift = 56; shift >= 0; shift -= 8) {
                int sign = (int) (bytes >>> shift) & 0xFF;
                boolean known = sign == 10 || (sign >= 32 && sign <= 126);
                if (known && length < signs.length) {
                    signs[length] = (char) sign;
                    length++;
                }
            }
        }

        void empty() {
            length = 0;
        }

        void rewind() {
            next = 0;
            advance();
        }

        void advance() {
            int at = next;
            while (at < length && (signs[at] == ' ' || signs[at] == '\n')) {
                at++;
            }
            place = at;
            next = at;
            word = null;
            if (at >= length) {
                sort = TOKEN_END;
            } else if (signs[at] >= 'a' && signs[at] <= 'z') {
                readWord();
            } else if (signs[at] >= '0' && signs[at] <= '9') {
                readNumber();
            } else {
                sort = "()<=+-*;".indexOf(signs[at]) >= 0 ? TOKEN_SIGN : TOKEN_WRONG;
                number = signs[at];
                next = at + 1;
            }
        }

        boolean isSign(char sign) {
            return sort == TOKEN_SIGN && number == sign;
        }

        private void readWord() {
            int at = place;
            code = 0;
            for (; at < length && signs[at] >= 'a' && signs[at] <= 'z'; at++) {
                code = code * 27 + (signs[at] - 'a' + 1);
            }
            next = at;
            sort = at - place <= WORD_LENGTH ? TOKEN_WORD : TOKEN_WRONG;
            for (int i = 0; i < WORDS.length && sort == TOKEN_WORD; i++) {
                if (WORDS[i].code == code) {
                    word = WORDS[i];
                }
            }
        }

        private void readNumber() {
            int at = place;
            number = 0;
            for (; at < length && signs[at] >= '0' && signs[at] <= '9'; at++) {
                number = number * 10 + (signs[at] - '0');
            }
            next = at;
            sort = at - place <= NUMBER_LENGTH ? TOKEN_NUMBER : TOKEN_WRONG;
        }
    }

    /** Reads the tape as a fjord. */
    private static final class Reader {
        private final Tape tape;
        private final int[] code = new int[MOST_SIGNS];
        private final long[] names = new long[MOST_POURERS + MOST_LOADS];
        private Fjord told;
        private int size;
        private int named;
        private int toldOnce;
        private int facts;
        private int fault;

        Reader(Tape tape) {
            this.tape = tape;
        }

        int read() {
            fault = 0;
            named = 0;
            toldOnce = 0;
            tape.rewind();
            takeWord(Word.FJORD);
            int columns = takeNumber(2, MOST_COLUMNS);
            int rows = takeNumber(1, MOST_ROWS);
            takeSign(';');
            Fjord fresh = new Fjord(columns, rows);
            for (int line = 0; line < MOST_SIGNS && fault == 0 && tape.sort != TOKEN_END; line++) {
                readLine(fresh);
                takeSign(';');
            }
            told = fresh;
            return fault;
        }

        private void readLine(Fjord fresh) {
            Word word = tape.word;
            if (word == null) {
                fail(FAULT_MISPLACED, tape.place);
                return;
            }
            switch (word) {
                case ROCKS: readGround(fresh, ROCK); break;
                case SALTS: readGround(fresh, SALT); break;
                case CURRENT: readCurrent(fresh); break;
                case POURER: readPourer(fresh); break;
                case LOAD: readLoad(fresh); break;
                case MILD: readMild(fresh); break;
                case FROST:
                case MELT:
                case SOUND:
                case FIRST: readLaw(fresh, word.number); break;
                default: fail(FAULT_MISPLACED, tape.place); break;
            }
        }

        private void readGround(Fjord fresh, int ground) {
            tape.advance();
            int cell = takeCell(fresh, fresh.ground);
            fresh.ground[cell] = ground;
        }

        private void readCurrent(Fjord fresh) {
            tape.advance();
            int current = takeNumber(1, 9);
            takeWord(Word.AT);
            int cell = takeCell(fresh, fresh.current);
            fresh.current[cell] = current;
        }

        private void readPourer(Fjord fresh) {
            if (fresh.pourers >= MOST_POURERS) {
                fail(FAULT_TOO_MANY, tape.place);
                return;
            }
            tape.advance();
            takeName();
            int side = takeOneOf(GROUP_SIDE);
            int kind = takeOneOf(GROUP_POURER_KIND);
            takeWord(Word.PAILS);
            fresh.addPourer(side, kind, takeNumber(0, 99));
        }

        private void readLoad(Fjord fresh) {
            if (fresh.loads >= MOST_LOADS) {
                fail(FAULT_TOO_MANY, tape.place);
                return;
            }
            tape.advance();
            takeName();
            int kind = takeOneOf(GROUP_LOAD_KIND);
            takeWord(Word.HEAVY);
            int heavy = takeNumber(1, 50);
            takeWord(Word.WORTH);
            fresh.addLoad(kind, heavy, takeNumber(0, 99));
        }

        private void readMild(Fjord fresh) {
            tellOnce(MILD_BIT);
            tape.advance();
            fresh.mild = takeNumber(0, 10);
        }

        private void readLaw(Fjord fresh, int law) {
            if (law < 0 || law >= LAW_FACTS.length) {
                return;
            }
            tellOnce(1 << law);
            tape.advance();
            size = 0;
            facts = LAW_FACTS[law];
            readChain(0, 0);
            if (fault == 0) {
                fresh.setLaw(law, new Law(Arrays.copyOf(code, size)));
            }
        }

        private void tellOnce(int bit) {
            if ((toldOnce & bit) != 0) {
                fail(FAULT_TOLD_ALREADY, tape.place);
            }
            toldOnce |= bit;
        }

        /** Parts joined by the signs of this level and of those that bind tighter, from the left. */
        private void readChain(int level, int depth) {
            if (level >= LEVEL_PART) {
                readPart(depth);
                return;
            }
            readChain(level + 1, depth);
            int most = level == LEVEL_COMPARE ? 1 : MOST_SIGNS;
            for (int i = 0; i < most && fault == 0; i++) {
                int sign = joiningSign();
                if (sign == NONE || (sign - SIGN_AND) / 2 != level) {
                    return;
                }
                tape.advance();
                readChain(level + 1, depth);
                put(-1 - sign);
            }
        }

        private void readPart(int depth) {
            if (!startsPart()) {
                fail(FAULT_MISPLACED, tape.place);
            } else if (depth >= MOST_DEPTH) {
                fail(FAULT_TOO_MANY, tape.place);
            } else if (tape.sort == TOKEN_NUMBER) {
                put(tape.number);
                tape.advance();
            } else if (tape.sort == TOKEN_SIGN) {
                tape.advance();
                readChain(0, depth + 1);
                if (!tape.isSign(')')) {
                    fail(FAULT_MISPLACED, tape.place);
                }
                tape.advance();
            } else if (tape.word == Word.NOT) {
                tape.advance();
                readPart(depth + 1);
                put(-1 - SIGN_NOT);
            } else {
                putFact();
                tape.advance();
            }
        }

        private boolean startsPart() {
            Word word = tape.word;
            if (word == null) {
                return tape.sort == TOKEN_NUMBER || tape.isSign('(');
            }
            return word == Word.NOT || (word.fact != NONE && (facts >> word.fact & 1) != 0);
        }

        private int joiningSign() {
            if (tape.sort == TOKEN_WORD) {
                return tape.word == Word.AND ? SIGN_AND : tape.word == Word.OR ? SIGN_OR : NONE;
            }
            if (tape.sort != TOKEN_SIGN) {
                return NONE;
            }
            switch (tape.number) {
                case '<': return SIGN_LESS;
                case '=': return SIGN_EQUAL;
                case '+': return SIGN_PLUS;
                case '-': return SIGN_MINUS;
                case '*': return SIGN_TIMES;
                default: return NONE;
            }
        }

        private void putFact() {
            Word word = tape.word;
            if (word != null) {
                put(-1 - word.fact);
            }
        }

        private void put(int step) {
            if (size < code.length) {
                code[size] = step;
                size++;
            }
        }

        private void takeWord(Word wanted) {
            if (tape.word != wanted) {
                fail(FAULT_MISPLACED, tape.place);
            }
            tape.advance();
        }

        private void takeSign(char wanted) {
            if (!tape.isSign(wanted)) {
                fail(FAULT_MISPLACED, tape.place);
            }
            tape.advance();
        }

        /** Answers a number within the bounds even when there is a fault, so that callers may go on. */
        private int takeNumber(int least, int most) {
            if (tape.sort != TOKEN_NUMBER) {
                fail(FAULT_MISPLACED, tape.place);
                return least;
            }
            int number = tape.number;
            if (number < least || number > most) {
                fail(FAULT_NUMBER, tape.place);
                return least;
            }
            tape.advance();
            return number;
        }

        private int takeCell(Fjord fresh, int[] map) {
            int column = takeNumber(0, fresh.columns - 1);
            int place = tape.place;
            int row = takeNumber(0, fresh.rows - 1);
            int cell = cellAt(column, row);
            if (map[cell] != 0) {
                fail(FAULT_TOLD_ALREADY, place);
            }
            return cell;
        }

        private int takeOneOf(int group) {
            Word word = tape.word;
            if (word == null || word.group != group) {
                fail(FAULT_MISPLACED, tape.place);
                return 0;
            }
            tape.advance();
            return word.number;
        }

        private void takeName() {
            Word word = tape.word;
            if (tape.sort != TOKEN_WORD || (word != null && word.group != GROUP_FREE)) {
                fail(FAULT_MISPLACED, tape.place);
                return;
            }
            for (int i = 0; i < named; i++) {
                if (names[i] == tape.code) {
                    fail(FAULT_TOLD_ALREADY, tape.place);
                }
            }
            if (named < names.length) {
                names[named] = tape.code;
                named++;
            }
            tape.advance();
        }

        /** The first fault stands: tokens are taken from the left, and going on behind a wrong one does no harm. */
        private void fail(int kind, int place) {
            if (fault == 0) {
                fault = kind + 16 * place;
            }
        }
    }

    /** An E as steps on a stack: a number that is not below 0 stands for itself, -1 - x for a fact or a sign x. */
    private static final class Law {
        private final int[] code;

        Law(int[] code) {
            this.code = code;
        }

        int weigh(int[] facts, int[] stack) {
            int top = 0;
            for (int i = 0; i < code.length; i++) {
                int operation = -1 - code[i];
                if (operation < FACTS) {
                    if (top < stack.length) {
                        stack[top] = operation < 0 ? code[i] : facts[operation];
                        top++;
                    }
                } else if (operation == SIGN_NOT) {
                    if (top >= 1) {
                        stack[top - 1] = stack[top - 1] == 0 ? 1 : 0;
                    }
                } else if (top >= 2) {
                    stack[top - 2] = joined(operation, stack[top - 2], stack[top - 1]);
                    top--;
                }
            }
            return stack[0];
        }

        private static int joined(int sign, int left, int right) {
            switch (sign) {
                case SIGN_AND: return left != 0 && right != 0 ? 1 : 0;
                case SIGN_OR: return left != 0 || right != 0 ? 1 : 0;
                case SIGN_LESS: return left < right ? 1 : 0;
                case SIGN_EQUAL: return left == right ? 1 : 0;
                case SIGN_PLUS: return left + right;
                case SIGN_MINUS: return left - right;
                default: return left * right;
            }
        }
    }

    /** A fjord as it was told, and room to weigh its laws in; what was told never changes, so marks may share it. */
    private static final class Fjord {
        private final int columns;
        private final int rows;
        private final int[] ground = new int[MOST_CELLS];
        private final int[] current = new int[MOST_CELLS];
        private final int[] pourerSide = new int[MOST_POURERS];
        private final int[] pourerKind = new int[MOST_POURERS];
        private final int[] pourerPails = new int[MOST_POURERS];
        private final int[] loadKind = new int[MOST_LOADS];
        private final int[] loadNeeds = new int[MOST_LOADS];
        private final int[] loadWorth = new int[MOST_LOADS];
        private final int[] facts = new int[FACTS];
        private final int[] stack = new int[STACK];
        private int pourers;
        private int loads;
        private int mild;
        private Law frost = new Law(new int[] {2});
        private Law melt = new Law(new int[] {1});
        private Law sound = new Law(new int[] {-1 - FACT_THICK});
        private Law first = new Law(new int[] {-1 - FACT_WORTH});

        Fjord(int columns, int rows) {
            this.columns = columns;
            this.rows = rows;
        }

        void addPourer(int side, int kind, int pails) {
            if (pourers < MOST_POURERS) {
                pourerSide[pourers] = side;
                pourerKind[pourers] = kind;
                pourerPails[pourers] = pails;
                pourers++;
            }
        }

        void addLoad(int kind, int heavy, int worth) {
            if (loads < MOST_LOADS) {
                loadKind[loads] = kind;
                loadNeeds[loads] = kind == HORSE ? heavy + 1 : kind == SLEDGE ? Math.max(1, heavy - 1) : heavy;
                loadWorth[loads] = worth;
                loads++;
            }
        }

        void setLaw(int which, Law law) {
            switch (which) {
                case LAW_FROST: frost = law; break;
                case LAW_MELT: melt = law; break;
                case LAW_SOUND: sound = law; break;
                default: first = law; break;
            }
        }

        boolean hasRow(int row) {
            return row >= 0 && row < rows;
        }

        boolean hasCell(int column, int row) {
            return column >= 0 && column < columns && hasRow(row);
        }

        boolean hasPourer(int pourer) {
            return pourer >= 0 && pourer < pourers;
        }

        boolean hasLoad(int load) {
            return load >= 0 && load < loads;
        }

        int wearOf(int load) {
            int kind = loadKind[load];
            return kind >= 0 && kind < WEARS.length ? WEARS[kind] : 0;
        }

        int pailsOfAll() {
            int sum = 0;
            for (int i = 0; i < pourers; i++) {
                sum += pourerPails[i];
            }
            return sum;
        }

        int frostAt(int cell, int hour, int night) {
            tellPlace(cell, hour, night);
            return withinNine(frost.weigh(facts, stack));
        }

        int gripAt(int cell, int hour, int night) {
            int grip = frostAt(cell, hour, night);
            return ground[cell] == SALT ? grip / 2 : grip;
        }

        int meltAt(int cell, int hour, int night) {
            tellPlace(cell, hour, night);
            return withinNine(melt.weigh(facts, stack));
        }

        /** What would melt from noon to behind an hour, were there enough. */
        int meltSinceNoon(int cell, int hour, int night) {
            int sum = 0;
            for (int i = NOON; i <= hour && i < DAY; i++) {
                sum += meltAt(cell, i, night);
            }
            return sum;
        }

        int soundOf(int cell, int hour, int night, int thick) {
            tellPlace(cell, hour, night);
            facts[FACT_THICK] = thick;
            return Math.floorMod(sound.weigh(facts, stack), 10);
        }

        int rankOf(int load, int hour, int night) {
            facts[FACT_HOUR] = hour;
            facts[FACT_NIGHT] = night;
            facts[FACT_HEAVY] = loadNeeds[load];
            facts[FACT_WORTH] = loadWorth[load];
            facts[FACT_WEAR] = wearOf(load);
            return first.weigh(facts, stack);
        }

        private void tellPlace(int cell, int hour, int night) {
            facts[FACT_HOUR] = hour;
            facts[FACT_NIGHT] = night;
            facts[FACT_COLUMN] = cell % MOST_COLUMNS;
            facts[FACT_ROW] = cell / MOST_COLUMNS;
            facts[FACT_CURRENT] = current[cell];
        }

        private static int withinNine(int number) {
            return Math.max(0, Math.min(9, number));
        }
    }

    /** All that changes by night and day on a fjord: what a mark holds. */
    private static final class Ice {
        private final int[] thick = new int[MOST_CELLS];
        private final int[] stumps = new int[MOST_CELLS];
        private final int[] left = new int[MOST_POURERS];
        private final int[] shares = new int[MOST_POURERS];
        private Fjord told;
        private int gone;
        private int hour;
        private int night;
        private int frozen;
        private int melted;
        private int worn;

        Ice(Fjord told) {
            this.told = told;
            Arrays.fill(stumps, NONE);
        }

        void begin(Fjord fresh) {
            told = fresh;
            hour = 0;
            night = 0;
            frozen = 0;
            melted = 0;
            worn = 0;
            Arrays.fill(thick, 0);
            Arrays.fill(stumps, NONE);
            Arrays.fill(shares, 0);
            beginNight();
        }

        void copyFrom(Ice other) {
            told = other.told;
            gone = other.gone;
            hour = other.hour;
            night = other.night;
            frozen = other.frozen;
            melted = other.melted;
            worn = other.worn;
            System.arraycopy(other.thick, 0, thick, 0, MOST_CELLS);
            System.arraycopy(other.stumps, 0, stumps, 0, MOST_CELLS);
            System.arraycopy(other.left, 0, left, 0, MOST_POURERS);
            System.arraycopy(other.shares, 0, shares, 0, MOST_POURERS);
        }

        void passHour() {
            if (hour >= NOON) {
                meltAll();
            }
            hour++;
            if (hour >= DAY) {
                hour = 0;
                night++;
                beginNight();
            }
        }

        private void beginNight() {
            gone = 0;
            System.arraycopy(told.pourerPails, 0, left, 0, MOST_POURERS);
        }

        private void meltAll() {
            for (int cell = 0; cell < MOST_CELLS; cell++) {
                if (thick[cell] > 0) {
                    int melting = Math.min(thick[cell], told.meltAt(cell, hour, night));
                    thick[cell] -= melting;
                    melted += melting;
                }
            }
        }

        boolean isGone(int load) {
            return (gone >> load & 1) != 0;
        }

        boolean mayPour(int pourer, int column, int row) {
            if (!isNightHour(hour) || !told.hasPourer(pourer) || !told.hasCell(column, row)) {
                return false;
            }
            int cell = cellAt(column, row);
            if (left[pourer] <= 0 || told.ground[cell] == ROCK) {
                return false;
            }
            int kind = told.pourerKind[pourer];
            boolean west = told.pourerSide[pourer] == WEST;
            int ahead = west ? column : told.columns - 1 - column;
            if ((kind == LOVER && thick[cell] > 0) || (kind == CHILD && ahead >= CHILD_REACH)) {
                return false;
            }
            return west ? isFirm(row, 0, column) : isFirm(row, column + 1, told.columns);
        }

        private boolean isFirm(int row, int from, int to) {
            for (int column = from; column < to; column++) {
                int cell = cellAt(column, row);
                if (told.ground[cell] != ROCK && thick[cell] == 0) {
                    return false;
                }
            }
            return true;
        }

        void pourPail(int pourer, int cell) {
            int grip = told.gripAt(cell, hour, night) + (told.pourerKind[pourer] == SMITH ? 1 : 0);
            int freezing = Math.min(grip, MOST_THICK - thick[cell]);
            thick[cell] += freezing;
            frozen += freezing;
            left[pourer]--;
        }

        boolean mayGo(int load, int row) {
            return told.hasLoad(load) && told.hasRow(row) && !isGone(load) && thinnest(row) >= told.loadNeeds[load];
        }

        void goOver(int load, int row) {
            int wear = told.wearOf(load);
            for (int column = 0; column < told.columns; column++) {
                int cell = cellAt(column, row);
                int wearing = Math.min(wear, thick[cell]);
                thick[cell] -= wearing;
                worn += wearing;
            }
            gone |= 1 << load;
        }

        void unpour(int pourer, int fingers) {
            frozen -= fingers;
            left[pourer]++;
        }

        void comeBack(int load, int fingers) {
            worn += fingers;
            gone &= ~(1 << load);
        }

        int thinnest(int row) {
            int least = MOST_THICK;
            for (int column = 0; column < told.columns; column++) {
                int cell = cellAt(column, row);
                if (told.ground[cell] != ROCK) {
                    least = Math.min(least, thick[cell]);
                }
            }
            return least;
        }

        int thickInAll() {
            int sum = 0;
            for (int cell = 0; cell < MOST_CELLS; cell++) {
                sum += thick[cell];
            }
            return sum;
        }

        /** For how many hours from now on, up to a day, a cell stays as thick as is needed. */
        int hoursAtLeast(int cell, int needed) {
            if (told.ground[cell] == ROCK) {
                return DAY;
            }
            int now = thick[cell];
            for (int passed = 0; passed < DAY; passed++) {
                if (now < needed) {
                    return passed;
                }
                int then = hour + passed;
                if (then % DAY >= NOON) {
                    now -= told.meltAt(cell, then % DAY, night + then / DAY);
                }
            }
            return DAY;
        }

        int soundAt(int cell) {
            return told.ground[cell] == ROCK ? NONE : told.soundOf(cell, hour, night, thick[cell]);
        }

        int pailsOf(int set) {
            int sum = 0;
            for (int i = 0; i < told.pourers; i++) {
                sum += (set >> i & 1) * left[i];
            }
            return sum;
        }

        int sharesOf(int set) {
            int sum = 0;
            for (int i = 0; i < told.pourers; i++) {
                sum += (set >> i & 1) * shares[i];
            }
            return sum;
        }

        int fitsOf(int cell, int grip, int seen) {
            if (stumps[cell] == NONE) {
                return 0;
            }
            int melting = told.meltSinceNoon(cell, seen, night);
            int many = 0;
            for (int pails = 0; pails <= MOST_FIT; pails++) {
                if (isLeft(stumps[cell], pails * grip, melting)) {
                    many++;
                }
            }
            return many;
        }

        int leastFit(int cell, int grip, int seen) {
            int melting = told.meltSinceNoon(cell, seen, night);
            for (int pails = 0; pails <= MOST_FIT; pails++) {
                if (isLeft(stumps[cell], pails * grip, melting)) {
                    return pails;
                }
            }
            return NONE;
        }

        private static boolean isLeft(int stump, int fingers, int melting) {
            return Math.max(0, Math.min(MOST_THICK, fingers) - melting) == stump;
        }
    }

    /** The last deeds of an hour: of each who did it and how its row was before. */
    private static final class Deeds {
        /** Pourers are told from loads by this being added to their numbers. */
        private static final int POURERS_FROM = 8;

        private final int[] doers = new int[MOST_UNDONE];
        private final int[] rows = new int[MOST_UNDONE];
        private final int[] before = new int[MOST_UNDONE * MOST_COLUMNS];
        private int next;
        private int many;

        void forget() {
            next = 0;
            many = 0;
        }

        void keepPail(int pourer, int row, Ice ice) {
            keep(POURERS_FROM + pourer, row, ice);
        }

        void keepLoad(int load, int row, Ice ice) {
            keep(load, row, ice);
        }

        private void keep(int doer, int row, Ice ice) {
            doers[next] = doer;
            rows[next] = row;
            System.arraycopy(ice.thick, cellAt(0, row), before, next * MOST_COLUMNS, MOST_COLUMNS);
            next = (next + 1) % MOST_UNDONE;
            many = Math.min(many + 1, MOST_UNDONE);
        }

        boolean takeBack(Ice ice) {
            if (many == 0) {
                return false;
            }
            many--;
            next = (next + MOST_UNDONE - 1) % MOST_UNDONE;
            int fingers = restoreRow(ice);
            if (doers[next] >= POURERS_FROM) {
                ice.unpour(doers[next] - POURERS_FROM, fingers);
            } else {
                ice.comeBack(doers[next], fingers);
            }
            return true;
        }

        /** Answers by how many fingers the deed had made the row thicker. */
        private int restoreRow(Ice ice) {
            int fingers = 0;
            for (int column = 0; column < MOST_COLUMNS; column++) {
                int cell = cellAt(column, rows[next]);
                int was = before[next * MOST_COLUMNS + column];
                fingers += ice.thick[cell] - was;
                ice.thick[cell] = was;
            }
            return fingers;
        }
    }

    /** What can be built and what it costs, on the ice and by the grips that were measured last. */
    private static final class Yard {
        /** More than any pails that are asked for: ten cells of 99 fingers take 990. */
        private static final int TOO_DEAR = 100000;

        private final int[] thick = new int[MOST_CELLS];
        private final int[] grips = new int[MOST_CELLS];
        private Fjord told;

        Yard(Fjord told) {
            this.told = told;
        }

        void measure(Ice ice) {
            told = ice.told;
            System.arraycopy(ice.thick, 0, thick, 0, MOST_CELLS);
            measureGrips(ice.hour, ice.night);
        }

        void measureWater(Fjord fjord, int night, boolean mild) {
            told = fjord;
            Arrays.fill(thick, 0);
            measureGrips(0, night);
            for (int cell = 0; cell < MOST_CELLS && mild; cell++) {
                grips[cell] /= 2;
            }
        }

        private void measureGrips(int hour, int night) {
            for (int row = 0; row < told.rows; row++) {
                for (int column = 0; column < told.columns; column++) {
                    int cell = cellAt(column, row);
                    grips[cell] = told.gripAt(cell, hour, night);
                }
            }
        }

        private boolean isRock(int cell) {
            return told.ground[cell] == ROCK;
        }

        /** Pails by which a cell gets so many fingers more. */
        private int pailsOn(int cell, int fingers) {
            int grip = grips[cell];
            if (fingers <= 0) {
                return 0;
            }
            return grip > 0 ? (fingers + grip - 1) / grip : TOO_DEAR;
        }

        int pailsFor(int row, int thickness) {
            int pails = 0;
            for (int column = 0; column < told.columns; column++) {
                int cell = cellAt(column, row);
                pails += isRock(cell) ? 0 : pailsOn(cell, thickness - thick[cell]);
            }
            return pails;
        }

        /** The greatest thickness, halved in: more of it never takes fewer pails. */
        int thicknessOf(int row, int pails) {
            int reached = 0;
            int most = MOST_THICK;
            for (int i = 0; i <= MOST_THICK && reached < most; i++) {
                int middle = (reached + most + 1) / 2;
                if (pailsFor(row, middle) <= pails) {
                    reached = middle;
                } else {
                    most = middle - 1;
                }
            }
            return reached;
        }

        int bestRow(int pails) {
            int best = 0;
            int bestThickness = NONE;
            int bestPails = 0;
            for (int row = 0; row < told.rows; row++) {
                int thickness = thicknessOf(row, pails);
                int needed = pailsFor(row, thickness);
                if (thickness > bestThickness || (thickness == bestThickness && needed < bestPails)) {
                    best = row;
                    bestThickness = thickness;
                    bestPails = needed;
                }
            }
            return best;
        }

        /** Whether a row that is built bears a load when it has melted up to behind an hour. */
        boolean bearsBehind(int load, int row, int thickness, int hour, int night) {
            for (int column = 0; column < told.columns; column++) {
                int cell = cellAt(column, row);
                if (isRock(cell)) {
                    continue;
                }
                int fingers = pailsOn(cell, thickness - thick[cell]) * grips[cell];
                int built = Math.min(MOST_THICK, thick[cell] + fingers);
                if (built - told.meltSinceNoon(cell, hour, night) < told.loadNeeds[load]) {
                    return false;
                }
            }
            return true;
        }

        int pailsOfHalf(int side, int row) {
            int middle = (told.columns + 1) / 2;
            int to = side == WEST ? middle : told.columns;
            int pails = 0;
            for (int column = side == WEST ? 0 : middle; column < to; column++) {
                int cell = cellAt(column, row);
                if (!isRock(cell) && thick[cell] == 0) {
                    pails += pailsOn(cell, 1);
                }
            }
            return pails < TOO_DEAR ? pails : CANNOT;
        }

        int pailsToMend(int row, int wear) {
            int pails = 0;
            for (int column = 0; column < told.columns; column++) {
                int cell = cellAt(column, row);
                pails += pailsOn(cell, Math.min(wear, thick[cell]));
            }
            return pails < TOO_DEAR ? pails : CANNOT;
        }

        private int payOf(int side, int row, int other, int misfit) {
            return pailsOfHalf(side, row) + misfit * Math.abs(row - other);
        }

        boolean isRest(int west, int east, int misfit) {
            int westPays = payOf(WEST, west, east, misfit);
            int eastPays = payOf(EAST, east, west, misfit);
            for (int row = 0; row < told.rows; row++) {
                if (payOf(WEST, row, east, misfit) < westPays || payOf(EAST, row, west, misfit) < eastPays) {
                    return false;
                }
            }
            return true;
        }

        int worstPay(int side, int row, int set, int misfit) {
            int worst = 0;
            for (int other = 0; other < told.rows; other++) {
                if ((set >> other & 1) != 0) {
                    worst = Math.max(worst, payOf(side, row, other, misfit));
                }
            }
            return worst;
        }

        int safestRow(int side, int set, int misfit) {
            int safest = 0;
            for (int row = 1; row < told.rows; row++) {
                if (worstPay(side, row, set, misfit) < worstPay(side, safest, set, misfit)) {
                    safest = row;
                }
            }
            return safest;
        }
    }

    /**
     * Which loads go over a row so thick, in which order. The thinnest cell alone decides: all wear alike. A row of
     * rocks, which does not wear, may count as 99: seven loads wear 21 at most, and none needs more than 51.
     */
    private static final class Carriage {
        private final int[] wears = new int[MOST_SETS];
        private final int[] worths = new int[MOST_SETS];
        private final boolean[] reached = new boolean[MOST_SETS];
        private final boolean[] leading = new boolean[MOST_SETS];
        private final int[] order = new int[MOST_LOADS];
        private final int[] ranks = new int[MOST_LOADS];
        private int length;
        private int worth;
        private int bits;

        int answer(int what) {
            if (what == 0) {
                return worth;
            }
            if (what == 1) {
                return bits;
            }
            return what >= 2 && what - 2 < length ? order[what - 2] : NONE;
        }

        void choose(Ice ice, int thickness) {
            weighSets(ice, thickness);
            leadToMostWorth(ice, thickness);
            followLead(ice, thickness);
        }

        /** Finds what most is worth, without the order. */
        void weighSets(Ice ice, int thickness) {
            reachSets(ice, thickness);
            findMostWorth(ice);
        }

        private boolean mayFollow(Ice ice, int thickness, int set, int load) {
            boolean waits = (set >> load & 1) == 0 && !ice.isGone(load);
            return waits && thickness - wears[set] >= ice.told.loadNeeds[load];
        }

        /** A set wears a row in any order alike, so it is enough to know which sets some order reaches. */
        private void reachSets(Ice ice, int thickness) {
            Fjord told = ice.told;
            int sets = 1 << told.loads;
            for (int set = 0; set < sets; set++) {
                reached[set] = set == 0;
            }
            for (int set = 0; set < sets; set++) {
                for (int load = 0; load < told.loads && reached[set]; load++) {
                    if (mayFollow(ice, thickness, set, load)) {
                        int next = set | 1 << load;
                        reached[next] = true;
                        wears[next] = wears[set] + told.wearOf(load);
                        worths[next] = worths[set] + told.loadWorth[load];
                    }
                }
            }
        }

        private void findMostWorth(Ice ice) {
            worth = 0;
            length = 0;
            for (int set = 0; set < 1 << ice.told.loads; set++) {
                int many = Integer.bitCount(set);
                if (reached[set] && (worths[set] > worth || (worths[set] == worth && many < length))) {
                    worth = worths[set];
                    length = many;
                }
            }
        }

        private void leadToMostWorth(Ice ice, int thickness) {
            int loads = ice.told.loads;
            for (int set = (1 << loads) - 1; set >= 0; set--) {
                boolean leads = worths[set] == worth && Integer.bitCount(set) == length;
                for (int load = 0; load < loads && reached[set] && !leads; load++) {
                    leads = mayFollow(ice, thickness, set, load) && leading[set | 1 << load];
                }
                leading[set] = reached[set] && leads;
            }
        }

        private void followLead(Ice ice, int thickness) {
            bits = 0;
            for (int i = 0; i < length; i++) {
                int chosen = 0;
                for (int load = ice.told.loads - 1; load >= 0; load--) {
                    if (mayFollow(ice, thickness, bits, load) && leading[bits | 1 << load]) {
                        chosen = load;
                    }
                }
                order[i] = chosen;
                bits |= 1 << chosen;
            }
        }

        void lineUp(Ice ice, int thickness) {
            Fjord told = ice.told;
            length = 0;
            for (int load = 0; load < told.loads; load++) {
                if (!ice.isGone(load)) {
                    insert(load, told.rankOf(load, ice.hour, ice.night));
                }
            }
            worth = 0;
            bits = 0;
            int rest = thickness;
            for (int i = 0; i < length; i++) {
                int load = order[i];
                if (rest >= told.loadNeeds[load]) {
                    rest -= told.wearOf(load);
                    worth += told.loadWorth[load];
                    bits |= 1 << load;
                }
            }
        }

        private void insert(int load, int rank) {
            if (length >= MOST_LOADS) {
                return;
            }
            int at = length;
            for (; at > 0 && ranks[at - 1] < rank; at--) {
                order[at] = order[at - 1];
                ranks[at] = ranks[at - 1];
            }
            order[at] = load;
            ranks[at] = rank;
            length++;
        }
    }
}
