import java.nio.charset.StandardCharsets;

/** What the tests share: comparing answers, counting the wrong ones, feeding texts and bytes. */
final class Check {
    /** A call whose answer, or whose exception, is looked at. */
    interface Call {
        Object answer();
    }

    private static int wrong = 0;
    private static int looked = 0;

    private Check() {
    }

    static void due(String call, Object got, Object want) {
        looked++;
        if (!got.equals(want)) {
            wrong++;
            System.out.println(call + " answered " + got + ", due is " + want);
        }
    }

    static void throwsDue(String call, Class<? extends RuntimeException> want, Call made) {
        due(call, outcome(made), "throws." + want.getSimpleName());
    }

    static String outcome(Call made) {
        try {
            return String.valueOf(made.answer());
        } catch (RuntimeException e) {
            return "throws." + e.getClass().getSimpleName();
        }
    }

    static void finish(String name) {
        System.out.println(name + ": " + looked + " answers looked at, " + wrong + " wrong");
        if (wrong != 0) {
            System.exit(1);
        }
    }

    /** Puts these bytes alone on a tape that is empty. */
    static void tape(PinnedSky sky, byte[] bytes) {
        for (int from = 0; from < bytes.length; from += 20) {
            int[] numbers = new int[5];
            for (int i = 0; i < 20; i++) {
                int value = from + i < bytes.length ? bytes[from + i] & 255 : 0;
                numbers[i / 4] = numbers[i / 4] << 8 | value;
            }
            sky.feed(numbers[0], numbers[1], numbers[2], numbers[3], numbers[4]);
        }
        sky.end(bytes.length);
    }

    static void tape(PinnedSky sky, int... bytes) {
        byte[] row = new byte[bytes.length];
        for (int i = 0; i < bytes.length; i++) {
            row[i] = (byte) bytes[i];
        }
        tape(sky, row);
    }

    static void tape(PinnedSky sky, String text) {
        tape(sky, text.getBytes(StandardCharsets.ISO_8859_1));
    }

    /** A new sky told by one text. */
    static PinnedSky sky(String text) {
        PinnedSky sky = new PinnedSky();
        tape(sky, text);
        sky.sky();
        return sky;
    }

    static PinnedSky sky(String text, String law) {
        PinnedSky sky = sky(text);
        tape(sky, law);
        sky.law();
        return sky;
    }

    static int set(int... places) {
        int bits = 0;
        for (int place : places) {
            bits |= 1 << place;
        }
        return bits;
    }
}
