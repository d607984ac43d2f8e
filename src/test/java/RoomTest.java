import java.lang.management.ManagementFactory;

/**
 * All calls of a run live in one room of some 600,000 objects and 7.3 million fields and elements: what 512 calls of
 * each kind make is weighed in bytes, where the machine tells it.
 */
public final class RoomTest {
    private static final int CALLS = 512;
    /** A made object is told in bytes with its head; the least of one is 16, and an element takes one at least. */
    private static final long MOST_BYTES = 4_000_000;
    /** What weighing itself may take. */
    private static final long NEXT_TO_NONE = 20_000;

    private static final String LOADS = "load a foot heavy 1 worth 1;load b horse heavy 2 worth 2;load c sledge heavy 3 worth 3;"
        + "load d hearse heavy 4 worth 4;load e dance heavy 5 worth 5;load f foot heavy 6 worth 6;load g horse heavy 7 worth 7;";
    private static final String POURERS = "pourer h west plain pails 99;pourer i east lover pails 99;pourer j west child pails 99;"
        + "pourer k east smith pails 99;pourer l west plain pails 99;pourer m east plain pails 99;";
    private static final String FULL = "fjord 10 6;" + LOADS + POURERS + "frost 9-hour;melt 1+current;sound thick+hour;first worth-heavy;mild 5;";

    private interface Call {
        void make(IceBridge x, int i);
    }

    private RoomTest() {
    }

    public static void main(String[] args) {
        if (!(ManagementFactory.getThreadMXBean() instanceof com.sun.management.ThreadMXBean)) {
            System.out.println("this machine does not tell what is made");
            return;
        }
        questions();
        deeds();
        readings();
        Due.end();
    }

    private static long made() {
        return ((com.sun.management.ThreadMXBean) ManagementFactory.getThreadMXBean()).getCurrentThreadAllocatedBytes();
    }

    /** The first round loads what the machine loads once. */
    private static long bytesOf(Call call) {
        long bytes = 0;
        for (int round = 0; round < 2; round++) {
            IceBridge x = Due.fjord(FULL);
            long before = made();
            for (int i = 0; i < CALLS; i++) {
                call.make(x, i);
            }
            bytes = made() - before;
        }
        return bytes;
    }

    private static void makesNothing(String name, Call call) {
        long bytes = bytesOf(call);
        Due.is(name + " makes nothing, but took " + bytes, true, bytes <= NEXT_TO_NONE);
    }

    private static void makesLittle(String name, Call call) {
        long bytes = bytesOf(call);
        Due.is(name + " makes little, but took " + bytes, true, bytes <= MOST_BYTES);
    }

    private static void questions() {
        makesNothing("cell", (x, i) -> x.cell(i % 10, i % 6, i % 4));
        makesNothing("pourer", (x, i) -> x.pourer(i % 6, i % 4));
        makesNothing("load", (x, i) -> x.load(i % 7, i % 4));
        makesNothing("thin", (x, i) -> x.thin(i % 6));
        makesNothing("until", (x, i) -> x.until(i % 7, i % 6));
        makesNothing("carried", (x, i) -> x.carried(i % 6, i % 9));
        makesNothing("built", (x, i) -> x.built(i % 6, i, i % 2));
        makesNothing("best", (x, i) -> x.best(i));
        makesNothing("half", (x, i) -> x.half(i % 2, i % 6));
        makesNothing("rests", (x, i) -> x.rests(i % 100, i % 5 - 1));
        makesNothing("guess", (x, i) -> x.guess(i % 2, i % 63 + 1, i % 100, i % 2));
        makesNothing("queue", (x, i) -> x.queue(i % 6, i % 9));
        makesNothing("sound", (x, i) -> x.sound(i % 10, i % 6));
        makesNothing("heard", (x, i) -> x.heard(i % 6, i % 10, i % 4));
        makesNothing("value", (x, i) -> x.value(i % 64));
        makesNothing("leaves", (x, i) -> x.leaves());
        makesNothing("fits", (x, i) -> x.fits(i % 10, i % 6, i % 12, 12 + i % 12, i % 2));
        makesNothing("salted", (x, i) -> x.salted(i % 6, i % 12, 12 + i % 12));
        makesNothing("winter", (x, i) -> Due.winter(x, i, 60, i % 8 - 1, i % 24));
        makesNothing("count", (x, i) -> x.count(i % 13));
        makesLittle("toll of none", (x, i) -> Due.toll(x, i % 7, 6));
        makesLittle("winter of none", (x, i) -> Due.winter(x, i, 61, 0, 0));
    }

    private static void deeds() {
        makesNothing("pour", (x, i) -> x.pour(i % 2 * 2, i % 3, 0));
        makesNothing("pour and undo", (x, i) -> {
            if (i % 2 == 0) {
                x.pour(0, 0, i / 2 % 6);
            } else {
                x.undo();
            }
        });
        makesNothing("hours", (x, i) -> x.hours(1 + i % 30));
        makesNothing("share", (x, i) -> x.share(i % 6, i));
        makesNothing("stump", (x, i) -> x.stump(i % 10, i % 6, i % 100));
        makesNothing("feed", (x, i) -> x.feed(0x2020202020202020L, i, i));
        makesNothing("over", (x, i) -> x.over(i % 7, i % 6));
        makesNothing("marks but the first", (x, i) -> x.mark(i % 4, i % 3 == 2));
    }

    /** A text takes a call of feed for each 24 signs, and one of fjord: the shortest ones are told most often. */
    private static void readings() {
        makesLittle("short texts", (x, i) -> {
            if (i % 2 == 0) {
                x.feed(Due.pack("fjord 10", 0), Due.pack(" 6;frost", 0), Due.pack(" 1;", 0));
            } else {
                x.fjord();
            }
        });
        makesLittle("no texts", (x, i) -> x.fjord());
        makesLittle("long texts", (x, i) -> {
            if (i % 24 == 0) {
                x.fjord();
            } else {
                x.feed(Due.pack(FULL, i % 24 * 24 - 24), Due.pack(FULL, i % 24 * 24 - 16), Due.pack(FULL, i % 24 * 24 - 8));
            }
        });
    }
}
