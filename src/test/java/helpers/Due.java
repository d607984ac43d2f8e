import java.util.NoSuchElementException;
import java.util.function.IntUnaryOperator;

/** Compares answers with those that are due, and ends the program with 1 if one was not. */
final class Due {
    static final int THROWN = Integer.MIN_VALUE;
    private static final int NONE = -1;
    private static int wrong = 0;
    private static int asked = 0;

    private Due() {
    }

    static void is(String call, long want, long got) {
        asked++;
        if (want != got) {
            wrong++;
            if (wrong <= 50) {
                System.out.println(call + " answered " + got + ", due is " + want);
            }
        }
    }

    static void is(String call, boolean want, boolean got) {
        is(call, want ? 1 : 0, got ? 1 : 0);
    }

    static void yes(String call, boolean got) {
        is(call, true, got);
    }

    static void no(String call, boolean got) {
        is(call, false, got);
    }

    /** Both ends of an argument are answered; what is beside them, near or far, is answered by nothing. */
    static void ends(String call, int least, int most, int nothing, IntUnaryOperator got) {
        for (int good : new int[] {least, most}) {
            is(call + " " + good + " is answered", true, got.applyAsInt(good) != nothing);
        }
        int[] bad = {least - 1, most + 1, least - 2, most + 2, least - 256, most + 256, least - 65536, most + 65536,
            Integer.MIN_VALUE, Integer.MIN_VALUE + 1, Integer.MAX_VALUE - 1, Integer.MAX_VALUE};
        for (int other : bad) {
            is(call + " " + other, nothing, got.applyAsInt(other));
        }
    }

    static void ends(String call, int least, int most, IntUnaryOperator got) {
        ends(call, least, most, NONE, got);
    }

    /** A yes as an answer, a no as none. */
    static int orNone(boolean answer) {
        return answer ? 1 : NONE;
    }

    static boolean anyWrong() {
        return wrong > 0;
    }

    static void end() {
        System.out.println(wrong == 0 ? asked + " answers are as due" : wrong + " of " + asked + " answers are not as due");
        if (wrong > 0) {
            System.exit(1);
        }
    }

    /** Feeds a text by as few calls as can be; answers what the last feed answered. */
    static int feed(IceBridge x, String text) {
        int answer = x.count(12);
        for (int at = 0; at < text.length(); at += 24) {
            answer = x.feed(pack(text, at), pack(text, at + 8), pack(text, at + 16));
        }
        return answer;
    }

    static long pack(String text, int from) {
        long bytes = 0;
        for (int i = from; i < from + 8; i++) {
            bytes = bytes << 8 | (i < text.length() ? text.charAt(i) & 0xFF : 0);
        }
        return bytes;
    }

    static int read(IceBridge x, String text) {
        feed(x, text);
        return x.fjord();
    }

    static IceBridge fjord(String text) {
        IceBridge x = new IceBridge();
        is("fjord() of " + text, 0, read(x, text));
        return x;
    }

    /** What a new object answers to a text; kind 0 is none. */
    static void fault(int kind, int place, String text) {
        IceBridge x = new IceBridge();
        is("fault of " + text, kind == 0 ? 0 : kind + 16 * place, read(x, text));
        is("tape behind " + text, 0, x.count(12));
        if (kind != 0) {
            is("stays behind " + text, 2, x.count(0));
        }
    }

    /** A fault whose place is where the sign @ stands in the text, which is left out. */
    static void faultAt(int kind, String text) {
        fault(kind, text.indexOf('@'), text.replace("@", ""));
    }

    static void good(String text) {
        fault(0, 0, text);
    }

    static int toll(IceBridge x, int load, int row) {
        try {
            return x.toll(load, row);
        } catch (NoSuchElementException e) {
            return THROWN;
        }
    }

    static int winter(IceBridge x, int seed, int nights, int load, int hour) {
        try {
            return x.winter(seed, nights, load, hour);
        } catch (NoSuchElementException e) {
            return THROWN;
        }
    }
}
