import java.util.StringJoiner;

/**
 * All that can be asked of a sky, as one text, so that two of them can be compared. It takes some 260 calls, and
 * some 90 more to the end, so that a sky that was made by few calls stays below its 512.
 */
final class State {
    private static final int ROWS = 10;
    private static final int OLDEST_ROW = 59;

    private State() {
    }

    /** Leaves the sky as it is. */
    static String of(PinnedSky sky) {
        StringJoiner all = new StringJoiner(" ");
        all.add("counts");
        for (int what = 0; what < 12; what++) {
            all.add("" + sky.count(what));
        }
        for (int place = 0; place < 16; place++) {
            all.add("place" + place);
            for (int what : new int[] {0, 1, 2, 3, 4, 5, 6, 8}) {
                all.add("" + sky.place(place, what));
            }
            all.add("" + sky.rusts(place)).add("" + sky.led(place, false)).add("" + sky.led(place, true));
        }
        all.add("held").add("" + sky.held()).add("low").add("" + sky.low());
        for (int pinner = 0; pinner < sky.count(0); pinner++) {
            all.add("pinner" + pinner);
            for (int what = 0; what < 3; what++) {
                all.add("" + sky.pinner(pinner, what));
            }
        }
        all.add("log");
        for (int ago = 0; ago <= ROWS; ago++) {
            for (int what = 0; what < 4; what++) {
                all.add("" + sky.log(ago == ROWS ? OLDEST_ROW : ago, what));
            }
        }
        int seed = sky.seed(7);
        // moths and gales can be asked by what they would do alone
        all.add("winds").add("" + sky.odds(1, 1)).add("" + sky.trial(9, false)).add("" + sky.trial(60, false));
        sky.seed(seed);
        all.add("" + sky.trial(9, true)).add("" + sky.trial(60, true)).add("seed").add("" + seed);
        return all.add("fault").add("" + sky.fault()).toString();
    }

    /** Also what is on the tape, what can be undone and gone back to: nothing is left as it was. */
    static String toTheEnd(PinnedSky sky) {
        StringJoiner all = new StringJoiner(" ");
        all.add(of(sky)).add("bytes").add("" + bytes(sky)).add("undone");
        for (int acts = 0; acts < 13 && sky.undo(); acts++) {
            all.add(sky.count(3) + "/" + sky.count(4) + "/" + sky.count(7));
        }
        all.add("back").add("" + sky.back()).add("" + sky.count(3)).add("" + sky.count(7)).add("" + sky.count(2));
        all.add("text").add(Check.outcome(() -> sky.sky())).add("" + sky.fault());
        return all.add("" + sky.count(4)).add("" + sky.count(6)).add("" + sky.count(7)).toString();
    }

    /** How many bytes the tape has; it stays as it is. */
    static int bytes(PinnedSky sky) {
        int fed = sky.feed(0, 0, 0, 0, 0);
        if (fed != PinnedSky.NONE) {
            sky.end(fed - 20);
            return fed - 20;
        }
        int bytes = 400;
        while (bytes > 380 && !sky.end(bytes)) {
            bytes--;
        }
        return bytes;
    }
}
