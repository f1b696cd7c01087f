import java.nio.charset.StandardCharsets;
import java.util.function.Function;
import java.util.function.Supplier;

/** What the tests share: comparing answers, counting the wrong ones, feeding texts and bytes. */
final class Check {
    /** A call whose answer, or whose exception, is looked at. */
    interface Call {
        Object answer();
    }

    private static int wrong = 0;
    private static int looked = 0;
    private static String told = "";

    private Check() {
    }

    /** All that is looked at from here on, up to the next such call, holds this sentence of the document. */
    static void holds(int promise, String sentence) {
        told = "promise " + promise + " \"" + sentence + "\": ";
    }

    static void due(String call, Object got, Object want) {
        looked++;
        if (!got.equals(want)) {
            wrong++;
            System.out.println(told + call + " answered " + got + ", due is " + want);
        }
    }

    static void throwsDue(String call, Class<? extends RuntimeException> want, Call made) {
        due(call, outcome(made), "throws." + want.getSimpleName());
    }

    static String outcome(Call made) {
        try {
            return String.valueOf(made.answer());
        } catch (RuntimeException e) {
            return "throws." + e.getClass().getSimpleName();
        }
    }

    /** A refused call throws this, and all behind it is as on a twin on which it was not made. */
    static void refused(String call, Class<? extends RuntimeException> want, Supplier<PinnedSky> made,
            Function<PinnedSky, Object> refusal) {
        PinnedSky sky = made.get();
        throwsDue(call, want, () -> refusal.apply(sky));
        due("all behind " + call, State.toTheEnd(sky), State.toTheEnd(made.get()));
    }

    /** Likewise of a call that uses the tape up: the twin's tape is emptied. */
    static void refusedWithItsTape(String call, Class<? extends RuntimeException> want, Supplier<PinnedSky> made,
            Function<PinnedSky, Object> refusal) {
        PinnedSky sky = made.get();
        throwsDue(call, want, () -> refusal.apply(sky));
        PinnedSky twin = made.get();
        twin.end(0);
        due("all behind " + call, State.toTheEnd(sky), State.toTheEnd(twin));
    }

    static void finish(String name) {
        System.out.println(name + ": " + looked + " answers looked at, " + wrong + " wrong");
        if (wrong != 0) {
            System.exit(1);
        }
    }

    /** Puts these bytes alone on a tape that is empty. */
    static void tape(PinnedSky sky, byte[] bytes) {
        for (int from = 0; from < bytes.length; from += 20) {
            int[] numbers = new int[5];
            for (int i = 0; i < 20; i++) {
                int value = from + i < bytes.length ? bytes[from + i] & 255 : 0;
                numbers[i / 4] = numbers[i / 4] << 8 | value;
            }
            sky.feed(numbers[0], numbers[1], numbers[2], numbers[3], numbers[4]);
        }
        sky.end(bytes.length);
    }

    static void tape(PinnedSky sky, int... bytes) {
        byte[] row = new byte[bytes.length];
        for (int i = 0; i < bytes.length; i++) {
            row[i] = (byte) bytes[i];
        }
        tape(sky, row);
    }

    static void tape(PinnedSky sky, String text) {
        tape(sky, text.getBytes(StandardCharsets.ISO_8859_1));
    }

    /** A new sky told by one text. */
    static PinnedSky sky(String text) {
        PinnedSky sky = new PinnedSky();
        tape(sky, text);
        sky.sky();
        return sky;
    }

    static PinnedSky sky(String text, String law) {
        PinnedSky sky = sky(text);
        law(sky, law);
        return sky;
    }

    /** One more text of a sky: how many there are. */
    static int more(PinnedSky sky, String text) {
        tape(sky, text);
        return sky.sky();
    }

    static int law(PinnedSky sky, String law) {
        tape(sky, law);
        return sky.law();
    }

    /** Lines of a text, the same for each of these places, with the place for every #. */
    static String each(String line, int from, int to) {
        StringBuilder text = new StringBuilder();
        for (int place = from; place <= to; place++) {
            text.append(place == from ? "" : ";").append(line.replace("#", "" + place));
        }
        return text.toString();
    }

    /** A new sky in which this line was told of all 16 places, in two texts. */
    static PinnedSky everywhere(String line) {
        PinnedSky sky = sky(each(line, 0, 7));
        more(sky, each(line, 8, 15));
        return sky;
    }

    static int set(int... places) {
        int bits = 0;
        for (int place : places) {
            bits |= 1 << place;
        }
        return bits;
    }
}
