import java.util.ArrayList;
import java.util.HashSet;
import java.util.List;
import java.util.Map;
import java.util.Set;
import java.util.regex.Matcher;
import java.util.regex.Pattern;

/**
 * The document once more, as plainly and slowly as can be: every pail is poured, every order of loads is tried. It
 * shares nothing with the class that it is compared with.
 */
final class Model implements Cloneable {
    static final int NONE = -1;
    static final List<String> SIDES = List.of("west", "east");
    static final List<String> POURER_KINDS = List.of("plain", "lover", "child", "smith");
    static final List<String> LOAD_KINDS = List.of("foot", "horse", "sledge", "hearse", "dance");

    /** A fault of a text. */
    static final class Fault extends RuntimeException {
        private static final long serialVersionUID = 1L;
        final int number;

        Fault(int number) {
            super("fault", null, false, false);
            this.number = number;
        }
    }

    record Token(String text, int place, boolean good) {
        boolean isWord() {
            return good && text.matches("[a-z]+");
        }

        boolean isNumber() {
            return good && text.matches("[0-9]+");
        }
    }

    interface E {
        int of(Map<String, Integer> facts);
    }

    int n = 2;
    int rows = 1;
    String[][] ground;
    int[][] current;
    int[][] thick;
    int[][] stump;
    List<String> names = new ArrayList<>();
    List<int[]> pourers = new ArrayList<>(); // side, kind, pails
    List<int[]> loads = new ArrayList<>(); // kind, heavy, worth
    E frost = f -> 2;
    E melt = f -> 1;
    E sound = f -> f.get("thick");
    E first = f -> f.get("worth");
    int mild = 0;
    int[] left = new int[6];
    int[] share = new int[6];
    boolean[] over = new boolean[7];
    int hour = 0;
    int night = 0;
    int frozen = 0;
    int melted = 0;
    int worn = 0;
    List<Model> undo = new ArrayList<>();

    Model() {
        lay();
    }

    private void lay() {
        ground = new String[n][rows];
        current = new int[n][rows];
        thick = new int[n][rows];
        stump = new int[n][rows];
        for (int[] column : stump) {
            java.util.Arrays.fill(column, NONE);
        }
    }

    Model copy() {
        try {
            Model m = (Model) clone();
            m.thick = deep(thick);
            m.stump = deep(stump);
            m.left = left.clone();
            m.share = share.clone();
            m.over = over.clone();
            m.undo = new ArrayList<>();
            return m;
        } catch (CloneNotSupportedException e) {
            throw new AssertionError(e);
        }
    }

    private static int[][] deep(int[][] a) {
        int[][] b = new int[a.length][];
        for (int i = 0; i < a.length; i++) {
            b[i] = a[i].clone();
        }
        return b;
    }

    // ---- reading

    static List<Token> tokens(String text) {
        List<Token> list = new ArrayList<>();
        Matcher m = Pattern.compile("[a-z]+|[0-9]+|[^\\n ]").matcher(text);
        while (m.find()) {
            String t = m.group();
            boolean good = t.matches("[a-z]{1,8}|[0-9]{1,4}|[()<=+*;-]");
            list.add(new Token(t, m.start(), good));
        }
        list.add(new Token("", text.length(), false));
        return list;
    }

    /** Reads texts with faults thrown. */
    static final class Parser {
        final List<Token> tokens;
        int at = 0;
        final Model m = new Model();
        final Set<String> once = new HashSet<>();
        Set<String> facts = Set.of();

        Parser(String text) {
            tokens = tokens(text);
        }

        Token now() {
            return tokens.get(at);
        }

        Fault fault(int kind) {
            return new Fault(kind + 16 * now().place());
        }

        void expect(String text) {
            if (!now().good() || !now().text().equals(text)) {
                throw fault(1);
            }
            at++;
        }

        int number(int least, int most) {
            if (!now().isNumber()) {
                throw fault(1);
            }
            int x = Integer.parseInt(now().text());
            if (x < least || x > most) {
                throw fault(4);
            }
            at++;
            return x;
        }

        int oneOf(List<String> words) {
            int i = now().good() ? words.indexOf(now().text()) : -1;
            if (i < 0) {
                throw fault(1);
            }
            at++;
            return i;
        }

        void name() {
            List<String> reserved = List.of("fjord", "rock", "salt", "current", "at", "pourer", "pails", "load", "heavy",
                "worth", "frost", "melt", "sound", "first", "mild", "not", "and", "or");
            String t = now().text();
            if (!now().isWord() || reserved.contains(t) || SIDES.contains(t) || POURER_KINDS.contains(t)
                || LOAD_KINDS.contains(t)) {
                throw fault(1);
            }
            if (m.names.contains(t)) {
                throw fault(3);
            }
            m.names.add(t);
            at++;
        }

        Model read() {
            expect("fjord");
            m.n = number(2, 10);
            m.rows = number(1, 6);
            expect(";");
            m.lay();
            while (now().good() || at < tokens.size() - 1) {
                line();
                expect(";");
            }
            m.fill();
            return m;
        }

        void line() {
            String word = now().text();
            if (!now().good()) {
                throw fault(1);
            }
            switch (word) {
                case "rock", "salt" -> {
                    at++;
                    int c = number(0, m.n - 1);
                    int r = number(0, m.rows - 1);
                    if (m.ground[c][r] != null) {
                        at--;
                        throw fault(3);
                    }
                    m.ground[c][r] = word;
                }
                case "current" -> {
                    at++;
                    int x = number(1, 9);
                    expect("at");
                    int c = number(0, m.n - 1);
                    int r = number(0, m.rows - 1);
                    if (m.current[c][r] != 0) {
                        at--;
                        throw fault(3);
                    }
                    m.current[c][r] = x;
                }
                case "pourer" -> {
                    if (m.pourers.size() == 6) {
                        throw fault(5);
                    }
                    at++;
                    name();
                    int side = oneOf(SIDES);
                    int kind = oneOf(POURER_KINDS);
                    expect("pails");
                    m.pourers.add(new int[] {side, kind, number(0, 99)});
                }
                case "load" -> {
                    if (m.loads.size() == 7) {
                        throw fault(5);
                    }
                    at++;
                    name();
                    int kind = oneOf(LOAD_KINDS);
                    expect("heavy");
                    int heavy = number(1, 50);
                    expect("worth");
                    m.loads.add(new int[] {kind, heavy, number(0, 99)});
                }
                case "frost", "melt", "sound", "first", "mild" -> {
                    if (!once.add(word)) {
                        throw fault(3);
                    }
                    at++;
                    if (word.equals("mild")) {
                        m.mild = number(0, 10);
                    } else {
                        law(word);
                    }
                }
                default -> throw fault(1);
            }
        }

        void law(String word) {
            facts = switch (word) {
                case "sound" -> Set.of("hour", "night", "column", "row", "current", "thick");
                case "first" -> Set.of("hour", "night", "heavy", "worth", "wear");
                default -> Set.of("hour", "night", "column", "row", "current");
            };
            E e = e(0);
            switch (word) {
                case "frost" -> m.frost = e;
                case "melt" -> m.melt = e;
                case "sound" -> m.sound = e;
                default -> m.first = e;
            }
        }

        boolean on(String text) {
            if (now().good() && now().text().equals(text)) {
                at++;
                return true;
            }
            return false;
        }

        E e(int depth) {
            E a = test(depth);
            while (true) {
                E l = a;
                if (on("and")) {
                    E r = test(depth);
                    a = f -> l.of(f) != 0 & r.of(f) != 0 ? 1 : 0;
                } else if (on("or")) {
                    E r = test(depth);
                    a = f -> l.of(f) != 0 | r.of(f) != 0 ? 1 : 0;
                } else {
                    return a;
                }
            }
        }

        E test(int depth) {
            E l = sum(depth);
            if (on("<")) {
                E r = sum(depth);
                return f -> l.of(f) < r.of(f) ? 1 : 0;
            }
            if (on("=")) {
                E r = sum(depth);
                return f -> l.of(f) == r.of(f) ? 1 : 0;
            }
            return l;
        }

        E sum(int depth) {
            E a = product(depth);
            while (true) {
                E l = a;
                if (on("+")) {
                    E r = product(depth);
                    a = f -> l.of(f) + r.of(f);
                } else if (on("-")) {
                    E r = product(depth);
                    a = f -> l.of(f) - r.of(f);
                } else {
                    return a;
                }
            }
        }

        E product(int depth) {
            E a = part(depth);
            while (on("*")) {
                E l = a;
                E r = part(depth);
                a = f -> l.of(f) * r.of(f);
            }
            return a;
        }

        E part(int depth) {
            Token t = now();
            String s = t.text();
            if (!t.good() || !(t.isNumber() || facts.contains(s) || s.equals("not") || s.equals("("))) {
                throw fault(1);
            }
            if (depth == 5) {
                throw fault(5);
            }
            at++;
            if (t.isNumber()) {
                int x = Integer.parseInt(s);
                return f -> x;
            }
            if (s.equals("not")) {
                E a = part(depth + 1);
                return f -> a.of(f) == 0 ? 1 : 0;
            }
            if (s.equals("(")) {
                E a = e(depth + 1);
                expect(")");
                return a;
            }
            return f -> f.get(s);
        }
    }

    static Model parse(String text) {
        return new Parser(text).read();
    }

    // ---- the state

    void fill() {
        for (int i = 0; i < pourers.size(); i++) {
            left[i] = pourers.get(i)[2];
        }
        over = new boolean[7];
    }

    boolean hasCell(int c, int r) {
        return c >= 0 && c < n && hasRow(r);
    }

    boolean hasRow(int r) {
        return r >= 0 && r < rows;
    }

    boolean rock(int c, int r) {
        return "rock".equals(ground[c][r]);
    }

    Map<String, Integer> facts(int c, int r, int hour, int night) {
        return Map.of("hour", hour, "night", night, "column", c, "row", r, "current", current[c][r], "thick", thick[c][r]);
    }

    static int nine(int x) {
        return x < 0 ? 0 : x > 9 ? 9 : x;
    }

    int grip(int c, int r, int hour, int night, boolean salt) {
        int g = nine(frost.of(facts(c, r, hour, night)));
        return salt ? g / 2 : g;
    }

    int grip(int c, int r) {
        return grip(c, r, hour, night, "salt".equals(ground[c][r]));
    }

    int needs(int l) {
        int[] x = loads.get(l);
        return x[0] == 1 ? x[1] + 1 : x[0] == 2 ? (x[1] == 1 ? 1 : x[1] - 1) : x[1];
    }

    int wear(int l) {
        return List.of(1, 2, 1, 0, 3).get(loads.get(l)[0]);
    }

    boolean bears(int l, int r) {
        for (int c = 0; c < n; c++) {
            if (!rock(c, r) && thick[c][r] < needs(l)) {
                return false;
            }
        }
        return true;
    }

    void remember() {
        undo.add(copy());
        if (undo.size() > 20) {
            undo.remove(0);
        }
    }

    boolean pour(int p, int c, int r) {
        if (hour > 11 || p < 0 || p >= pourers.size() || !hasCell(c, r) || left[p] == 0 || rock(c, r)) {
            return false;
        }
        int[] x = pourers.get(p);
        int step = x[0] == 0 ? 1 : -1;
        int passed = 0;
        for (int i = x[0] == 0 ? 0 : n - 1; i != c; i += step) {
            passed++;
            if (!rock(i, r) && thick[i][r] == 0) {
                return false;
            }
        }
        if (x[1] == 1 && thick[c][r] > 0 || x[1] == 2 && passed > 2) {
            return false;
        }
        remember();
        for (int i = grip(c, r) + (x[1] == 3 ? 1 : 0); i > 0; i--) {
            if (thick[c][r] < 99) {
                thick[c][r]++;
                frozen++;
            }
        }
        left[p]--;
        return true;
    }

    void wearRow(int l, int r) {
        for (int c = 0; c < n; c++) {
            for (int i = 0; i < wear(l); i++) {
                if (thick[c][r] > 0) {
                    thick[c][r]--;
                    worn++;
                }
            }
        }
        over[l] = true;
    }

    boolean hasLoad(int l) {
        return l >= 0 && l < loads.size();
    }

    boolean over(int l, int r) {
        if (!hasLoad(l) || !hasRow(r) || over[l] || !bears(l, r)) {
            return false;
        }
        remember();
        wearRow(l, r);
        return true;
    }

    /** The hand of the clock; what was remembered is given up by the caller. */
    void step() {
        if (hour >= 12) {
            for (int c = 0; c < n; c++) {
                for (int r = 0; r < rows; r++) {
                    for (int i = nine(melt.of(facts(c, r, hour, night))); i > 0; i--) {
                        if (thick[c][r] > 0) {
                            thick[c][r]--;
                            melted++;
                        }
                    }
                }
            }
        }
        hour++;
        if (hour == 24) {
            hour = 0;
            night++;
            fill();
        }
    }

    int hours(int many) {
        if (many < 1 || many > 1000) {
            return NONE;
        }
        for (int i = 0; i < many; i++) {
            step();
        }
        undo.clear();
        return hour + 24 * night;
    }

    // ---- questions

    int cell(int c, int r, int what) {
        if (!hasCell(c, r)) {
            return NONE;
        }
        return switch (what) {
            case 0 -> thick[c][r];
            case 1 -> ground[c][r] == null ? 0 : rock(c, r) ? 1 : 2;
            case 2 -> current[c][r];
            case 3 -> grip(c, r);
            default -> NONE;
        };
    }

    int pourer(int p, int what) {
        if (p < 0 || p >= pourers.size() || what < 0 || what > 3) {
            return NONE;
        }
        return what == 2 ? left[p] : what == 3 ? share[p] : pourers.get(p)[what];
    }

    int load(int l, int what) {
        if (!hasLoad(l) || what < 0 || what > 3) {
            return NONE;
        }
        return what == 1 ? needs(l) : what == 3 ? (over[l] ? 1 : 0) : loads.get(l)[what];
    }

    int thin(int r) {
        if (!hasRow(r)) {
            return NONE;
        }
        int least = 99;
        for (int c = 0; c < n; c++) {
            if (!rock(c, r) && thick[c][r] < least) {
                least = thick[c][r];
            }
        }
        return least;
    }

    int until(int l, int r) {
        if (!hasLoad(l) || !hasRow(r)) {
            return NONE;
        }
        Model m = copy();
        for (int i = 0; i < 24; i++) {
            if (!m.bears(l, r)) {
                return i;
            }
            m.step();
        }
        return 24;
    }

    /** The best order of loads: what is worth more, then the shorter, then the first row of numbers. */
    private void carry(int r, List<Integer> order, List<Integer> best) {
        int a = worth(order);
        int b = worth(best);
        if (a > b || a == b && (order.size() < best.size() || order.size() == best.size() && before(order, best))) {
            best.clear();
            best.addAll(order);
        }
        for (int l = 0; l < loads.size(); l++) {
            if (!over[l] && bears(l, r)) {
                Model m = copy();
                m.wearRow(l, r);
                order.add(l);
                m.carry(r, order, best);
                order.remove(order.size() - 1);
            }
        }
    }

    private int worth(List<Integer> order) {
        return order.stream().mapToInt(l -> loads.get(l)[2]).sum();
    }

    private static boolean before(List<Integer> a, List<Integer> b) {
        for (int i = 0; i < a.size(); i++) {
            if (!a.get(i).equals(b.get(i))) {
                return a.get(i) < b.get(i);
            }
        }
        return false;
    }

    private int answer(int what, int worth, List<Integer> gone, List<Integer> order) {
        if (what == 0) {
            return worth;
        }
        if (what == 1) {
            return gone.stream().mapToInt(l -> 1 << l).sum();
        }
        return what >= 2 && what - 2 < order.size() ? order.get(what - 2) : NONE;
    }

    int carried(int r, int what) {
        if (!hasRow(r)) {
            return NONE;
        }
        List<Integer> best = new ArrayList<>();
        copy().carry(r, new ArrayList<>(), best);
        return answer(what, worth(best), best, best);
    }

    int queue(int r, int what) {
        if (!hasRow(r)) {
            return NONE;
        }
        List<Integer> order = new ArrayList<>();
        for (int l = 0; l < loads.size(); l++) {
            if (!over[l]) {
                order.add(l);
            }
        }
        order.sort((a, b) -> Integer.compare(rank(b), rank(a)));
        Model m = copy();
        List<Integer> gone = new ArrayList<>();
        for (int l : order) {
            if (m.bears(l, r)) {
                m.wearRow(l, r);
                gone.add(l);
            }
        }
        return answer(what, worth(gone), gone, order);
    }

    private int rank(int l) {
        return first.of(Map.of("hour", hour, "night", night, "heavy", needs(l), "worth", loads.get(l)[2], "wear", wear(l)));
    }

    /** Pails poured one by one on the thinnest cell until all are so thick; NONE if that can't be. Changes the ice. */
    private int raise(int r, int target, int[] grips) {
        int pails = 0;
        for (int c = 0; c < n; c++) {
            while (!rock(c, r) && thick[c][r] < target) {
                if (grips[c] == 0) {
                    return NONE;
                }
                thick[c][r] = Math.min(99, thick[c][r] + grips[c]);
                pails++;
            }
        }
        return pails;
    }

    private int[] grips(int r, boolean half) {
        int[] g = new int[n];
        for (int c = 0; c < n; c++) {
            g[c] = grip(c, r) / (half ? 2 : 1);
        }
        return g;
    }

    /** Thickness and pails. */
    int[] build(int r, int pails, boolean half) {
        for (int t = 99; t > 0; t--) {
            int p = copy().raise(r, t, grips(r, half));
            if (p != NONE && p <= pails) {
                return new int[] {t, p};
            }
        }
        return new int[] {0, 0};
    }

    int built(int r, int pails, int what) {
        return !hasRow(r) || pails < 0 || pails > 999 || what < 0 || what > 1 ? NONE : build(r, pails, false)[what];
    }

    private int bestOf(int pails, boolean half) {
        int best = 0;
        for (int r = 1; r < rows; r++) {
            int[] a = build(r, pails, half);
            int[] b = build(best, pails, half);
            if (a[0] > b[0] || a[0] == b[0] && a[1] < b[1]) {
                best = r;
            }
        }
        return best;
    }

    int best(int pails) {
        return pails < 0 || pails > 999 ? NONE : bestOf(pails, false);
    }

    int half(int side, int r) {
        if (side < 0 || side > 1 || !hasRow(r)) {
            return NONE;
        }
        int pails = 0;
        for (int c = 0; c < n; c++) {
            boolean mine = (side == 0) == (c < n - c);
            if (mine && !rock(c, r) && thick[c][r] == 0) {
                if (grip(c, r) == 0) {
                    return 99;
                }
                pails++;
            }
        }
        return pails;
    }

    int pay(int side, int own, int other, int misfit) {
        return half(side, own) + misfit * Math.abs(own - other);
    }

    int rests(int misfit, int what) {
        if (misfit < 0 || misfit > 99) {
            return NONE;
        }
        List<Integer> found = new ArrayList<>();
        for (int w = 0; w < rows; w++) {
            for (int e = 0; e < rows; e++) {
                boolean rests = true;
                for (int r = 0; r < rows; r++) {
                    rests &= pay(0, r, e, misfit) >= pay(0, w, e, misfit);
                    rests &= pay(1, r, w, misfit) >= pay(1, e, w, misfit);
                }
                if (rests) {
                    found.add(8 * w + e);
                }
            }
        }
        return what == NONE ? found.size() : what >= 0 && what < found.size() ? found.get(what) : NONE;
    }

    int guess(int side, int set, int misfit, int what) {
        if (side < 0 || side > 1 || set < 1 || set >= 1 << rows || misfit < 0 || misfit > 99 || what < 0 || what > 1) {
            return NONE;
        }
        int row = NONE;
        int least = Integer.MAX_VALUE;
        for (int r = 0; r < rows; r++) {
            int worst = Integer.MIN_VALUE;
            for (int o = 0; o < rows; o++) {
                if ((set & 1 << o) != 0) {
                    worst = Math.max(worst, pay(side, r, o, misfit));
                }
            }
            if (worst < least) {
                least = worst;
                row = r;
            }
        }
        return what == 0 ? row : least;
    }

    int toll(int l, int r) {
        if (!hasLoad(l) || !hasRow(r) || over[l] || !bears(l, r)) {
            return Due.THROWN;
        }
        Model m = copy();
        m.wearRow(l, r);
        int pails = 0;
        for (int c = 0; c < n; c++) {
            while (m.thick[c][r] < thick[c][r]) {
                if (grip(c, r) == 0) {
                    return 99;
                }
                m.thick[c][r] += grip(c, r);
                pails++;
            }
        }
        return pails;
    }

    int sound(int c, int r) {
        if (!hasCell(c, r) || rock(c, r)) {
            return NONE;
        }
        int x = sound.of(facts(c, r, hour, night)) % 10;
        return x < 0 ? x + 10 : x;
    }

    int heard(int r, int s, int what) {
        List<Integer> so = new ArrayList<>();
        for (int c = 0; c < n && hasRow(r); c++) {
            if (!rock(c, r) && sound(c, r) == s) {
                so.add(c);
            }
        }
        if (so.isEmpty() || what < 0 || what > 3) {
            return NONE;
        }
        int crack = so.get(0);
        for (int c : so) {
            crack = thick[c][r] < thick[crack][r] ? c : crack;
        }
        return List.of(so.get(0), so.get(so.size() - 1), so.size(), crack).get(what);
    }

    int value(int set) {
        if (set < 0 || set >= 1 << pourers.size()) {
            return NONE;
        }
        int pails = 0;
        for (int p = 0; p < pourers.size(); p++) {
            pails += (set & 1 << p) == 0 ? 0 : left[p];
        }
        int most = 0;
        for (int r = 0; r < rows; r++) {
            Model m = copy();
            m.raise(r, build(r, pails, false)[0], grips(r, false));
            most = Math.max(most, m.carried(r, 0));
        }
        return most;
    }

    int leaves() {
        for (int set = 1; set < 1 << pourers.size(); set++) {
            int sum = 0;
            for (int p = 0; p < pourers.size(); p++) {
                sum += (set & 1 << p) == 0 ? 0 : share[p];
            }
            if (sum < value(set)) {
                return set;
            }
        }
        return NONE;
    }

    boolean share(int p, int worth) {
        if (p < 0 || p >= pourers.size() || worth < 0 || worth > 999) {
            return false;
        }
        share[p] = worth;
        return true;
    }

    boolean stump(int c, int r, int t) {
        if (!hasCell(c, r) || rock(c, r) || t < -1 || t > 99) {
            return false;
        }
        stump[c][r] = t;
        return true;
    }

    private List<Integer> fit(int c, int r, int poured, int seen, boolean salt) {
        List<Integer> list = new ArrayList<>();
        for (int k = 0; k <= 50; k++) {
            int t = 0;
            for (int i = 0; i < k; i++) {
                t = Math.min(99, t + grip(c, r, poured, night, salt));
            }
            for (int h = 12; h <= seen; h++) {
                t = Math.max(0, t - nine(melt.of(facts(c, r, h, night))));
            }
            if (t == stump[c][r]) {
                list.add(k);
            }
        }
        return list;
    }

    int fits(int c, int r, int poured, int seen, int what) {
        if (!hasCell(c, r) || poured < 0 || poured > 11 || seen < 12 || seen > 23 || what < 0 || what > 1
            || stump[c][r] == NONE) {
            return NONE;
        }
        List<Integer> list = fit(c, r, poured, seen, "salt".equals(ground[c][r]));
        return list.isEmpty() ? NONE : what == 0 ? list.size() : list.get(0);
    }

    int salted(int r, int poured, int seen) {
        if (!hasRow(r) || poured < 0 || poured > 11 || seen < 12 || seen > 23) {
            return NONE;
        }
        int bits = 0;
        for (int c = 0; c < n; c++) {
            boolean told = stump[c][r] != NONE;
            if (told && fits(c, r, poured, seen, 0) == NONE && !fit(c, r, poured, seen, true).isEmpty()) {
                bits += 1 << c;
            }
        }
        return bits;
    }

    int winter(int seed, int nights, int l, int h) {
        if (seed < 0 || seed > 9999 || nights < 1 || nights > 60 || l != NONE && !hasLoad(l) || h < 0 || h > 23) {
            return Due.THROWN;
        }
        java.math.BigInteger g = java.math.BigInteger.valueOf(seed);
        int pails = pourers.stream().mapToInt(p -> p[2]).sum();
        int bearing = 0;
        int greatest = 0;
        for (int i = 0; i < nights; i++) {
            g = g.multiply(java.math.BigInteger.valueOf(1103515245)).add(java.math.BigInteger.valueOf(12345))
                .mod(java.math.BigInteger.ONE.shiftLeft(31));
            Model m = copy();
            m.thick = new int[n][rows];
            m.hour = 0;
            m.night = night + i;
            boolean half = g.intValueExact() / 65536 % 10 < mild;
            int row = m.bestOf(pails, half);
            int t = m.build(row, pails, half)[0];
            m.raise(row, t, m.grips(row, half));
            greatest = Math.max(greatest, t);
            // the melting of an hour is done when the hand leaves it; the pails are not looked at any more
            for (int k = 0; k <= h; k++) {
                m.step();
            }
            if (l != NONE && m.bears(l, row)) {
                bearing++;
            }
        }
        return l == NONE ? greatest : bearing;
    }

    int count(int what, int signs, int undone) {
        int all = 0;
        for (int[] column : thick) {
            for (int t : column) {
                all += t;
            }
        }
        int[] list = {n, rows, pourers.size(), loads.size(), hour, night, frozen, melted, worn, all, undone, mild, signs};
        return what < 0 || what >= list.length ? NONE : list[what];
    }
}
