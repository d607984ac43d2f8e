import java.util.ArrayList;
import java.util.List;
import java.util.Random;

/** Runs of calls by chance, of which every answer is compared with that of the plain model. */
public final class ModelTest {
    private final Random chance;
    private final IceBridge x = new IceBridge();
    private Model m = new Model();
    private final Model[] marks = new Model[4];
    private String tape = "";
    private final String run;
    private int calls = 0;

    private ModelTest(int seed) {
        chance = new Random(seed);
        run = "run " + seed + ": ";
    }

    public static void main(String[] args) {
        int from = args.length > 0 ? Integer.parseInt(args[0]) : 0;
        int to = args.length > 1 ? Integer.parseInt(args[1]) : 400;
        for (int seed = from; seed < to && !Due.anyWrong(); seed++) {
            new ModelTest(seed).go();
        }
        Due.end();
    }

    private int below(int n) {
        return chance.nextInt(n);
    }

    private int between(int a, int b) {
        return a + below(b - a + 1);
    }

    /** Mostly a good index, at times one beside. */
    private int index(int n) {
        return below(12) == 0 ? between(-2, n + 2) : n == 0 ? 0 : below(n);
    }

    private void go() {
        tell(new Texts(chance).fjord());
        while (calls < 480) {
            calls++;
            if (below(60) == 0) {
                tell(below(2) == 0 ? new Texts(chance).fjord() : new Texts(chance).broken());
            } else if (below(3) > 0) {
                act();
            } else {
                ask();
            }
        }
        for (int what = -1; what <= 13; what++) {
            is("count(" + what + ")", m.count(what, tape.length(), m.undo.size()), x.count(what));
        }
    }

    private void is(String call, int want, int got) {
        Due.is(run + call, want, got);
    }

    private void tell(String text) {
        tape += text.length() + tape.length() > 1000 ? text.substring(0, 1000 - tape.length()) : text;
        is("feed of " + text, tape.length(), Due.feed(x, text));
        calls += text.length() / 24 + 1;
        int want = 0;
        try {
            m = Model.parse(tape);
        } catch (Model.Fault e) {
            want = e.number;
        }
        is("fjord() of " + tape, want, x.fjord());
        tape = "";
    }

    private void act() {
        switch (below(20)) {
            case 0, 1, 2, 3, 4, 5, 6, 7, 8, 9 -> {
                int p = index(m.pourers.size());
                int c = index(m.n);
                int r = index(Math.min(2, m.rows));
                Due.is(run + "pour " + p + " " + c + " " + r, m.pour(p, c, r), x.pour(p, c, r));
            }
            case 10, 11, 12 -> pourRow();
            case 13, 14 -> {
                int l = index(m.loads.size());
                int r = index(Math.min(2, m.rows));
                Due.is(run + "over " + l + " " + r, m.over(l, r), x.over(l, r));
            }
            case 15 -> undo();
            case 16 -> {
                int many = below(20) == 0 ? List.of(0, -1, 1001, 1000, 24, 48).get(below(6)) : between(1, 5);
                is("hours " + many, m.hours(many), x.hours(many));
            }
            case 17 -> mark();
            case 18 -> {
                int p = index(m.pourers.size());
                int s = below(4) == 0 ? between(-1, 1001) : between(0, 40);
                Due.is(run + "share " + p + " " + s, m.share(p, s), x.share(p, s));
            }
            default -> {
                int c = index(m.n);
                int r = index(m.rows);
                int t = below(6) == 0 ? between(-2, 101) : between(0, 25);
                Due.is(run + "stump " + c + " " + r + " " + t, m.stump(c, r, t), x.stump(c, r, t));
            }
        }
    }

    private void pourRow() {
        int r = index(Math.min(2, m.rows));
        for (int c = 0; c < m.n; c++) {
            for (int p = 0; p < m.pourers.size(); p++) {
                if (calls < 500 && below(2) == 0) {
                    calls++;
                    Due.is(run + "pour " + p + " " + c + " " + r, m.pour(p, c, r), x.pour(p, c, r));
                }
            }
        }
    }

    private void undo() {
        boolean can = !m.undo.isEmpty();
        if (can) {
            List<Model> rest = m.undo;
            Model back = rest.remove(rest.size() - 1).copy();
            back.share = m.share.clone();
            back.stump = m.stump;
            m = back;
            m.undo = rest;
        }
        Due.is(run + "undo", can, x.undo());
    }

    private void mark() {
        int i = index(4);
        boolean back = below(2) == 0;
        boolean good = i >= 0 && i < 4 && (!back || marks[i] != null);
        if (good && back) {
            m = marks[i].copy();
        } else if (good) {
            marks[i] = m.copy();
        }
        Due.is(run + "mark " + i + " " + back, good, x.mark(i, back));
    }

    private void ask() {
        int c = index(m.n);
        int r = index(m.rows);
        int l = index(m.loads.size());
        int p = index(m.pourers.size());
        int what = index(4);
        switch (below(22)) {
            case 0 -> is("cell " + c + " " + r + " " + what, m.cell(c, r, what), x.cell(c, r, what));
            case 1 -> is("pourer " + p + " " + what, m.pourer(p, what), x.pourer(p, what));
            case 2 -> is("load " + l + " " + what, m.load(l, what), x.load(l, what));
            case 3 -> is("thin " + r, m.thin(r), x.thin(r));
            case 4 -> is("until " + l + " " + r, m.until(l, r), x.until(l, r));
            case 5 -> {
                if (m.loads.size() < 6 || below(4) == 0) {
                    what = between(-1, 9);
                    is("carried " + r + " " + what, m.carried(r, what), x.carried(r, what));
                }
            }
            case 6 -> {
                int pails = pails();
                what = index(2);
                is("built " + r + " " + pails + " " + what, m.built(r, pails, what), x.built(r, pails, what));
            }
            case 7 -> {
                int pails = pails();
                is("best " + pails, m.best(pails), x.best(pails));
            }
            case 8 -> {
                int side = index(2);
                is("half " + side + " " + r, m.half(side, r), x.half(side, r));
            }
            case 9, 10 -> {
                int misfit = misfit();
                what = between(-2, 6);
                is("rests " + misfit + " " + what, m.rests(misfit, what), x.rests(misfit, what));
            }
            case 11 -> {
                int side = index(2);
                int set = index(1 << m.rows);
                int misfit = misfit();
                what = index(2);
                is("guess " + side + " " + set + " " + misfit + " " + what, m.guess(side, set, misfit, what),
                    x.guess(side, set, misfit, what));
            }
            case 12 -> {
                what = between(-1, 9);
                is("queue " + r + " " + what, m.queue(r, what), x.queue(r, what));
            }
            case 13 -> is("toll " + l + " " + r, m.toll(l, r), Due.toll(x, l, r));
            case 14 -> is("sound " + c + " " + r, m.sound(c, r), x.sound(c, r));
            case 15 -> {
                int s = below(3) == 0 ? between(-1, 10) : Math.max(0, m.sound(c, r));
                is("heard " + r + " " + s + " " + what, m.heard(r, s, what), x.heard(r, s, what));
            }
            case 16 -> {
                int set = index(1 << m.pourers.size());
                if (m.loads.size() < 6) {
                    is("value " + set, m.value(set), x.value(set));
                }
            }
            case 17 -> {
                if (m.loads.size() < 5 && m.pourers.size() < 5) {
                    is("leaves", m.leaves(), x.leaves());
                }
            }
            case 18 -> {
                int poured = below(8) == 0 ? between(-1, 12) : between(0, 11);
                int seen = below(8) == 0 ? between(11, 24) : between(12, 16);
                what = index(2);
                is("fits " + c + " " + r + " " + poured + " " + seen + " " + what, m.fits(c, r, poured, seen, what),
                    x.fits(c, r, poured, seen, what));
            }
            case 19 -> {
                int poured = below(8) == 0 ? between(-1, 12) : between(0, 11);
                int seen = below(8) == 0 ? between(11, 24) : between(12, 16);
                is("salted " + r + " " + poured + " " + seen, m.salted(r, poured, seen), x.salted(r, poured, seen));
            }
            case 20 -> {
                int seed = below(10) == 0 ? between(9990, 10001) : between(-1, 200);
                int nights = below(6) == 0 ? between(-1, 61) : between(1, 4);
                l = below(3) == 0 ? -1 : l;
                int h = below(8) == 0 ? between(-1, 24) : between(9, 18);
                is("winter " + seed + " " + nights + " " + l + " " + h, m.winter(seed, nights, l, h),
                    Due.winter(x, seed, nights, l, h));
            }
            default -> {
                what = between(-1, 13);
                is("count " + what, m.count(what, tape.length(), m.undo.size()), x.count(what));
            }
        }
    }

    private int pails() {
        return below(10) == 0 ? between(-1, 1000) : between(0, 60);
    }

    private int misfit() {
        return below(10) == 0 ? between(-1, 100) : between(0, 4);
    }

    /** Texts of fjords by chance. */
    private static final class Texts {
        private final Random chance;
        private final StringBuilder out = new StringBuilder();

        Texts(Random chance) {
            this.chance = chance;
        }

        private int between(int a, int b) {
            return a + chance.nextInt(b - a + 1);
        }

        private void put(String... tokens) {
            for (String t : tokens) {
                boolean glued = out.length() > 0 && Character.isLetterOrDigit(out.charAt(out.length() - 1))
                    && Character.isLetterOrDigit(t.charAt(0));
                if (glued || chance.nextInt(8) == 0) {
                    out.append(chance.nextInt(9) == 0 ? '\n' : ' ');
                }
                out.append(t);
            }
        }

        private String number(int a, int b) {
            int x = between(a, b);
            return chance.nextInt(20) == 0 ? String.format("%0" + Math.max(2, between(1, 4)) + "d", x) : "" + x;
        }

        String fjord() {
            int n = between(2, chance.nextInt(4) == 0 ? 10 : 5);
            int rows = between(1, chance.nextInt(4) == 0 ? 6 : 3);
            put("fjord", "" + n, "" + rows, ";");
            List<String> lines = new ArrayList<>();
            ground(n, rows);
            int pourers = between(0, 6);
            for (int i = 0; i < pourers; i++) {
                String name = i == 2 ? "hour" : "p" + (char) ('a' + i);
                String kind = Model.POURER_KINDS.get(chance.nextInt(3) == 0 ? 0 : chance.nextInt(4));
                put("pourer", name, Model.SIDES.get(chance.nextInt(2)), kind, "pails", number(0, 30), ";");
            }
            int loads = between(0, chance.nextInt(3) == 0 ? 7 : 4);
            for (int i = 0; i < loads; i++) {
                put("load", "l" + (char) ('a' + i), Model.LOAD_KINDS.get(chance.nextInt(5)), "heavy",
                    number(1, chance.nextInt(5) == 0 ? 50 : 9), "worth", number(0, chance.nextInt(2) == 0 ? 3 : 99), ";");
            }
            if (chance.nextInt(4) > 0) {
                put("mild", number(0, 10), ";");
            }
            law("frost", List.of("hour", "night", "column", "row", "current"));
            law("melt", List.of("hour", "night", "column", "row", "current"));
            law("sound", List.of("hour", "night", "column", "row", "current", "thick"));
            law("first", List.of("hour", "night", "heavy", "worth", "wear"));
            return out.toString();
        }

        private void ground(int n, int rows) {
            for (int c = 0; c < n; c++) {
                for (int r = 0; r < rows; r++) {
                    int k = chance.nextInt(12);
                    if (k < 2) {
                        put(k == 0 ? "rock" : "salt", "" + c, "" + r, ";");
                    }
                    if (chance.nextInt(10) == 0) {
                        put("current", number(1, 9), "at", "" + c, "" + r, ";");
                    }
                }
            }
            if (chance.nextInt(10) == 0 && out.toString().indexOf("rock") < 0 && out.toString().indexOf("salt") < 0) {
                for (int c = 0; c < n; c++) {
                    put("rock", "" + c, "0", ";");
                }
            }
        }

        private void law(String word, List<String> facts) {
            if (chance.nextInt(3) == 0 || out.length() > 800) {
                return;
            }
            put(word);
            if (word.equals("frost") && chance.nextInt(2) == 0) {
                put(number(1, 9), "-");
            }
            e(facts, 0);
            put(";");
        }

        private void e(List<String> facts, int depth) {
            test(facts, depth);
            for (int i = chance.nextInt(4); i > 2; i--) {
                put(chance.nextInt(2) == 0 ? "and" : "or");
                test(facts, depth);
            }
        }

        private void test(List<String> facts, int depth) {
            sum(facts, depth);
            if (chance.nextInt(5) == 0) {
                put(chance.nextInt(2) == 0 ? "<" : "=");
                sum(facts, depth);
            }
        }

        private void sum(List<String> facts, int depth) {
            product(facts, depth);
            for (int i = chance.nextInt(4); i > 2; i--) {
                put(chance.nextInt(2) == 0 ? "+" : "-");
                product(facts, depth);
            }
        }

        private void product(List<String> facts, int depth) {
            part(facts, depth);
            for (int i = chance.nextInt(6); i > 4; i--) {
                put("*");
                part(facts, depth);
            }
        }

        private void part(List<String> facts, int depth) {
            int k = chance.nextInt(depth < 4 ? 8 : 6);
            if (k < 3) {
                put(number(0, chance.nextInt(20) == 0 ? 9999 : 6));
            } else if (k < 6) {
                put(facts.get(chance.nextInt(facts.size())));
            } else if (k == 6) {
                put("not");
                part(facts, depth + 1);
            } else {
                put("(");
                e(facts, depth + 1);
                put(")");
            }
        }

        /** A good text in which a few tokens are dropped, doubled or changed for others. */
        String broken() {
            List<String> words = List.of("fjord", "rock", "salt", "current", "at", "pourer", "pails", "load", "heavy",
                "worth", "frost", "melt", "sound", "first", "mild", "west", "plain", "foot", "not", "and", "or", "hour",
                "night", "column", "row", "thick", "wear", "pa", "la", "(", ")", "<", "=", "+", "-", "*", ";", "0", "1",
                "10", "99", "100", "12345", "abcdefghi", "abcdefgh", "A", "!", "((((((", "not not not not not not");
            List<Model.Token> tokens = Model.tokens(fjord());
            List<String> texts = new ArrayList<>();
            for (Model.Token t : tokens) {
                texts.add(t.text());
            }
            for (int i = between(1, 2); i > 0 && texts.size() > 1; i--) {
                int at = chance.nextInt(texts.size());
                String other = words.get(chance.nextInt(words.size()));
                switch (chance.nextInt(4)) {
                    case 0 -> texts.remove(at);
                    case 1 -> texts.add(at, other);
                    case 2 -> texts.add(at, texts.get(chance.nextInt(texts.size())));
                    default -> texts.set(at, other);
                }
            }
            out.setLength(0);
            for (String t : texts) {
                if (!t.isEmpty()) {
                    put(t);
                }
            }
            return chance.nextInt(5) == 0 ? out.append(' ').toString() : out.toString();
        }
    }
}
