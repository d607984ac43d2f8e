import java.util.NoSuchElementException;

/** Compares answers with those that are due, and ends the program with 1 if one was not. */
final class Due {
    static final int THROWN = Integer.MIN_VALUE;
    private static int wrong = 0;
    private static int asked = 0;

    private Due() {
    }

    static void is(String call, long want, long got) {
        asked++;
        if (want != got) {
            wrong++;
            if (wrong <= 50) {
                System.out.println(call + " answered " + got + ", due is " + want);
            }
        }
    }

    static void is(String call, boolean want, boolean got) {
        is(call, want ? 1 : 0, got ? 1 : 0);
    }

    static boolean anyWrong() {
        return wrong > 0;
    }

    static void end() {
        System.out.println(wrong == 0 ? asked + " answers are as due" : wrong + " of " + asked + " answers are not as due");
        if (wrong > 0) {
            System.exit(1);
        }
    }

    /** Feeds a text by as few calls as can be; answers what the last feed answered. */
    static int feed(IceBridge x, String text) {
        int answer = x.count(12);
        for (int at = 0; at < text.length(); at += 24) {
            answer = x.feed(pack(text, at), pack(text, at + 8), pack(text, at + 16));
        }
        return answer;
    }

    static long pack(String text, int from) {
        long bytes = 0;
        for (int i = from; i < from + 8; i++) {
            bytes = bytes << 8 | (i < text.length() ? text.charAt(i) & 0xFF : 0);
        }
        return bytes;
    }

    static int read(IceBridge x, String text) {
        feed(x, text);
        return x.fjord();
    }

    static IceBridge fjord(String text) {
        IceBridge x = new IceBridge();
        is("fjord() of " + text, 0, read(x, text));
        return x;
    }

    static int toll(IceBridge x, int load, int row) {
        try {
            return x.toll(load, row);
        } catch (NoSuchElementException e) {
            return THROWN;
        }
    }

    static int winter(IceBridge x, int seed, int nights, int load, int hour) {
        try {
            return x.winter(seed, nights, load, hour);
        } catch (NoSuchElementException e) {
            return THROWN;
        }
    }
}
