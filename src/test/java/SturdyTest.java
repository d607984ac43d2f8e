import java.util.NoSuchElementException;
import java.util.Random;

/** Any arguments in any state: nothing is thrown but what the document names, and questions change nothing. */
public final class SturdyTest {
    private static final String[] TEXTS = {
        "fjord 10 6;pourer a west plain pails 99;pourer b east lover pails 99;pourer c west child pails 99;"
            + "pourer d east smith pails 99;pourer e west smith pails 99;pourer f east plain pails 99;"
            + "load g foot heavy 1 worth 99;load h horse heavy 50 worth 99;load i sledge heavy 1 worth 9;load j hearse heavy 2 worth 1;"
            + "load k dance heavy 3 worth 0;load l dance heavy 4 worth 7;load m foot heavy 5 worth 8;frost 9;melt hour=12;",
        "fjord 2 1;rock 0 0;rock 1 0;load a foot heavy 50 worth 1;",
        "fjord 3 2;salt 0 0;salt 1 1;current 9 at 2 1;frost 0-9999*9999*9999*9999;melt 9999*9999;sound 0-thick*9999*9999;"
            + "first 0-9999*9999*heavy;mild 10;pourer a east smith pails 5;load b dance heavy 1 worth 3;",
        "fjord 5 3;frost not(1<hour+thick);",
        "fjord 9 5;frost (((((((((", "", "#", ";;;;", "fjord", "fjord 2 2 ; rock 0",
    };
    private final Random chance;
    private final IceBridge x = new IceBridge();

    private SturdyTest(int seed) {
        chance = new Random(seed);
    }

    public static void main(String[] args) {
        for (int seed = 0; seed < 400; seed++) {
            SturdyTest t = new SturdyTest(seed);
            for (int i = 0; i < 400; i++) {
                t.call(seed);
            }
        }
        Due.end();
    }

    private int any() {
        switch (chance.nextInt(8)) {
            case 0: return chance.nextInt();
            case 1: return new int[] {Integer.MIN_VALUE, Integer.MAX_VALUE, -1, -2, 1 << 30, 999, 1000, 1001}[chance.nextInt(8)];
            case 2: return chance.nextInt(30) - 5;
            case 3: return chance.nextInt(130);
            default: return chance.nextInt(4);
        }
    }

    private void call(int seed) {
        int which = chance.nextInt(34);
        String before = which >= 8 ? state() : "";
        boolean bad = false;
        try {
            if (which < 8) {
                act(which);
            } else {
                ask(which);
            }
        } catch (NoSuchElementException e) {
            bad = which != 8 && which != 9;
        } catch (RuntimeException e) {
            bad = true;
        }
        Due.is("run " + seed + ", call " + which + " throws", false, bad);
        if (which >= 8) {
            Due.is("run " + seed + ", question " + which + " changes nothing", true, before.equals(state()));
        }
        for (int i = 0; i < 13; i++) {
            Due.is("count " + i + " is not below 0", true, x.count(i) >= 0);
        }
        Due.is("what froze is there, melted or worn", x.count(6), x.count(7) + x.count(8) + x.count(9));
    }

    private String state() {
        StringBuilder s = new StringBuilder();
        for (int i = 0; i < 13; i++) {
            s.append(x.count(i)).append(' ');
        }
        for (int i = 0; i < 7; i++) {
            s.append(x.load(i, 3)).append(x.pourer(i, 2)).append(x.pourer(i, 3)).append(x.fits(i, 0, 0, 12, 1)).append(' ');
        }
        for (int i = 0; i < 60; i++) {
            s.append(x.cell(i % 10, i / 10, 0)).append(' ');
        }
        return s.toString();
    }

    private void act(int which) {
        switch (which) {
            case 0:
                if (chance.nextInt(6) == 0) {
                    Due.read(x, TEXTS[chance.nextInt(TEXTS.length)]);
                } else {
                    x.feed(chance.nextLong(), chance.nextLong(), chance.nextLong());
                }
                break;
            case 1:
                if (chance.nextInt(6) == 0) {
                    x.fjord();
                    Due.read(x, TEXTS[chance.nextInt(3)]);
                }
                break;
            case 2: x.over(any(), any()); break;
            case 3: x.undo(); break;
            case 4: x.hours(any()); break;
            case 5: x.share(any(), any()); break;
            case 6: x.stump(any(), any(), any()); break;
            default: x.mark(any(), chance.nextBoolean()); break;
        }
        for (int i = 0; i < 20; i++) {
            x.pour(any(), i % 10, any());
        }
    }

    private void ask(int which) {
        switch (which) {
            case 8: x.toll(any(), any()); break;
            case 9: x.winter(any(), any(), any(), any()); break;
            case 10: x.cell(any(), any(), any()); break;
            case 11: x.pourer(any(), any()); break;
            case 12: x.load(any(), any()); break;
            case 13: x.thin(any()); break;
            case 14: x.until(any(), any()); break;
            case 15: x.carried(any(), any()); break;
            case 16: x.built(any(), any(), any()); break;
            case 17: x.best(any()); break;
            case 18: x.half(any(), any()); break;
            case 19: x.rests(any(), any()); break;
            case 20: x.guess(any(), any(), any(), any()); break;
            case 21: x.queue(any(), any()); break;
            case 22: x.sound(any(), any()); break;
            case 23: x.heard(any(), any(), any()); break;
            case 24: x.value(any()); break;
            case 25: x.leaves(); break;
            case 26: x.fits(any(), any(), any(), any(), any()); break;
            case 27: x.salted(any(), any(), any()); break;
            default: x.count(any()); break;
        }
    }
}
