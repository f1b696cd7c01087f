import java.nio.charset.StandardCharsets;
import java.util.Arrays;

/** Edges of promises 1 to 3: a new object, the tape's bytes and its end; and of an object's 512 calls. */
public final class EdgeTapeTest {
    private static final int[] FAR = {Integer.MIN_VALUE, Integer.MIN_VALUE + 1, -401, -400, -20, -2, -1};

    public static void main(String[] args) {
        newObject();
        newObjectHasNothing();
        askedOfNothing();
        objectsStandAlone();
        feedUpTo400();
        feedThatWouldBeMore();
        feedHighestFirst();
        feedBehindTheTape();
        refusedBytes();
        endAtItsBounds();
        endThatIsRefused();
        endOfAllAndNothing();
        callsUpTo512();
        Check.finish("EdgeTapeTest");
    }

    private static void newObject() {
        Check.holds(1, "A sky without PINS.");
        PinnedSky sky = new PinnedSky();
        Check.due("pins", sky.count(7), 0);
        Check.due("held", sky.held(), 0);
        Check.due("stars", sky.stars(0, 15), 0);
        Check.holds(1, "GROUND 0 to 9 (0 at first), NEED 0 to 20 (0 at first)");
        for (int place = 0; place < 16; place++) {
            Check.due("ground " + place, sky.place(place, 0), 0);
            Check.due("need " + place, sky.place(place, 1), 0);
            Check.due("tree " + place, sky.place(place, 2), 0);
            Check.due("ladder " + place, sky.place(place, 3), 1);
            Check.due("pin " + place, sky.place(place, 4), 0);
            Check.due("rust " + place, sky.place(place, 5), 0);
            Check.due("strain " + place, sky.place(place, 6), 0);
            Check.due("holds " + place, sky.place(place, 7), 0);
            Check.due("sky " + place, sky.place(place, 8), 0);
            Check.due("stands " + place, sky.place(place, 9), 1);
        }
        Check.holds(1, "All PINS hold at HEIGHT 1 to 40 (20 at first).");
        Check.due("height", sky.count(4), 20);
        Check.holds(1, "TIGHT 0 to 9 (3 at first)");
        Check.due("tight", sky.count(5), 3);
        Check.holds(1, "STOCK of brass 0 to 999 (0 at first).");
        Check.due("stock", sky.count(6), 0);
        Check.holds(1, "DAY: 0 at first.");
        Check.due("day", sky.count(3), 0);
        Check.holds(1, "SEED 1 at first");
        Check.due("seed", sky.seed(1), 1);
    }

    private static void newObjectHasNothing() {
        Check.holds(1, "GALE 0 to 100, MOTHS 0 to 100 (0 at first).");
        PinnedSky calm = new PinnedSky();
        Check.due("odds of a gale", calm.odds(6, 1), 0);
        Check.more(calm, Check.each("pin #", 0, 13));
        Check.more(calm, "pin 14;pin 15");
        calm.days(40);
        Check.due("no pin went by a gale", calm.count(7), 65535);
        for (int place = 0; place < 16; place++) {
            Check.due("no moths at " + place, calm.place(place, 5), 40);
        }
        Check.holds(1, "A sky without PINS.");
        PinnedSky sky = new PinnedSky();
        Check.due("pinners", sky.count(0), 0);
        Check.due("texts", sky.count(1), 0);
        Check.due("no law", sky.count(2), -1);
        Check.due("brass", sky.count(8), 0);
        Check.due("gone", sky.count(9), 0);
        Check.due("rows", sky.count(10), 0);
        Check.due("acts", sky.count(11), 0);
        Check.due("fault", sky.fault(), -1);
        Check.due("bytes of the tape", State.bytes(sky), 0);
        Check.due("nothing to undo", sky.undo(), false);
        Check.due("no image", sky.back(), false);
    }

    /** No pinner, no pin, no law and no text: what each question answers then. */
    private static void askedOfNothing() {
        Check.holds(1, "A sky without PINS.");
        PinnedSky sky = new PinnedSky();
        Check.due("low", sky.low(), 0);
        Check.due("gives", sky.gives(false), -1);
        Check.due("gives which", sky.gives(true), 0);
        Check.due("weakest", sky.weakest(), -1);
        Check.due("key", sky.key(), 0);
        Check.due("fewest", sky.fewest(65535), 0);
        Check.due("first", sky.first(), 0);
        Check.due("spare", sky.spare(), 0);
        Check.due("goes", sky.goes(-1), 0);
        Check.due("before", sky.before(20), 0);
        Check.due("seen", sky.seen(false), 1);
        Check.due("sure", sky.seen(true), 0);
        Check.due("climb", sky.climb(), -1);
        Check.due("duke: he has one choice, the guild 17", sky.duke(), 17);
        Check.due("pay", sky.pay(19), 0);
        Check.due("season", sky.season(), 0);
        Check.due("best", sky.best(), 1);
        Check.due("lasts", sky.lasts(), -1);
        Check.due("longest", sky.longest(), 16);
        Check.due("ahead, sky", sky.ahead(15, 60, false), 0);
        Check.due("ahead, rust", sky.ahead(0, 60, true), 0);
        Check.due("rusts", sky.rusts(0), 0);
        Check.due("needs", sky.needs(60), 0);
        Check.due("trial", sky.trial(60, false), 0);
        Check.due("trial, standing", sky.trial(60, true), 16);
        Check.due("span, fewest", sky.span(60, false), 0);
        Check.due("span, most", sky.span(60, true), 0);
        Check.due("led", sky.led(0, false), 0);
        Check.due("led, day", sky.led(15, true), -1);
        Check.due("log", sky.log(0, 0), -1);
        Check.due("days", sky.days(60), 0);
    }

    private static void objectsStandAlone() {
        Check.holds(1, "A sky without PINS.");
        PinnedSky busy = Check.sky("pin 3 rust 9;pinner 3 pace 9 brass 9;height 9;tight 9;stock 9;gale 9;bare 9", "hold");
        busy.change(0);
        busy.days(9);
        busy.image();
        busy.feed(1, 2, 3, 4, 5);
        Check.due("a new one behind a busy one", State.toTheEnd(new PinnedSky()), State.toTheEnd(fresh()));
        Check.due("its pins", new PinnedSky().count(7), 0);
        Check.due("the busy one", busy.count(7), Check.set(3));
    }

    private static PinnedSky fresh() {
        PinnedSky sky = new PinnedSky();
        sky.feed(1, 2, 3, 4, 5);
        sky.end(0);
        return sky;
    }

    private static void feedUpTo400() {
        Check.holds(2, "how many it has");
        PinnedSky sky = new PinnedSky();
        for (int feeds = 1; feeds <= 20; feeds++) {
            Check.due("feed " + feeds, sky.feed(0, 0, 0, 0, 0), 20 * feeds);
        }
        Check.due("all 400 are there", sky.end(400), true);
        sky.end(379);
        Check.due("379 and twenty", sky.feed(0, 0, 0, 0, 0), 399);
        sky.end(380);
        Check.due("380 and twenty", sky.feed(0, 0, 0, 0, 0), 400);
        sky.end(1);
        Check.due("one and twenty", sky.feed(0, 0, 0, 0, 0), 21);
    }

    private static void feedThatWouldBeMore() {
        Check.holds(2, "NONE, and none come, if it would have more than 400.");
        for (int bytes = 381; bytes <= 400; bytes++) {
            PinnedSky sky = fullTape();
            sky.end(bytes);
            Check.due("feed behind " + bytes, sky.feed(-1, -1, -1, -1, -1), -1);
            Check.due("none came behind " + bytes, State.bytes(sky), bytes);
        }
        PinnedSky full = fullTape();
        full.feed(-1, -1, -1, -1, -1);
        full.feed(0x70696e20, 0x343b7069, 0x6e20353b, 0x70696e20, 0x363b2020);
        Check.due("the full tape is read as it was", full.sky(), 1);
        Check.due("its pin", full.count(7), Check.set(3));
        Check.due("it is used up and takes twenty again", full.feed(0, 0, 0, 0, 0), 20);
    }

    /** 395 blanks and then "pin 3". */
    private static PinnedSky fullTape() {
        PinnedSky sky = new PinnedSky();
        Check.tape(sky, " ".repeat(395) + "pin 3");
        return sky;
    }

    /** Pins, a pinner, acts, an image, and a full tape. */
    private static PinnedSky rich() {
        PinnedSky sky = Check.sky("pin 3 rust 9;pinner 4 pace 3 brass 2;tree 5 5;gale 30", "rust 2;strain 1");
        sky.pin(0);
        sky.image();
        sky.fell(5);
        Check.tape(sky, "stock 77;pin 14" + " ".repeat(385));
        return sky;
    }

    private static void refusedBytes() {
        Check.holds(2, "NONE, and none come, if it would have more than 400.");
        PinnedSky fed = rich();
        Check.due("feed behind 400", fed.feed(1, 2, 3, 4, 5), -1);
        Check.due("all is as it was", State.toTheEnd(fed), State.toTheEnd(rich()));
        Check.holds(3, "false, and nothing happens, if it has fewer, or n is below 0.");
        for (int n : new int[] {Integer.MIN_VALUE, -1, 401, Integer.MAX_VALUE}) {
            PinnedSky cut = rich();
            Check.due("end " + n + " of 400", cut.end(n), false);
            Check.due("all is as it was behind end " + n, State.toTheEnd(cut), State.toTheEnd(rich()));
        }
    }

    private static void feedHighestFirst() {
        Check.holds(2, "Twenty bytes come behind the TAPE, of each number the highest first");
        PinnedSky sky = Check.sky(Check.each("pinner # pace 1 brass 0", 0, 4));
        for (int pinner = 0; pinner < 5; pinner++) {
            sky.feed(0x00010203, 0x04ffffff, -1, -1, -1);
            sky.end(5);
            Check.due("byte " + pinner + " of the tape", sky.goes(pinner), pinner);
        }
        // every one of the twenty, by what stands there: 19 blanks and a sign that cannot stand there
        for (int at = 0; at < 20; at++) {
            byte[] bytes = " ".repeat(20).getBytes(StandardCharsets.ISO_8859_1);
            bytes[at] = (byte) 255;
            PinnedSky one = new PinnedSky();
            Check.tape(one, bytes);
            Check.throwsDue("a text of 255 at " + at, IllegalArgumentException.class, () -> one.sky());
            Check.due("where it stands", one.fault(), at);
        }
        // bytes 128 to 255 are told by numbers below 0
        PinnedSky high = Check.sky("pinner 0 pace 1 brass 0;pin 0");
        high.feed(0x00ffffff, 0, 0, 0, 0);
        high.end(2);
        Check.due("it cannot hang 255 high", high.seen(false), 0);
        high.feed(0x0014ffff, 0, 0, 0, 0);
        high.end(2);
        Check.due("it hangs 20 high", high.seen(false), 1);
    }

    private static void feedBehindTheTape() {
        Check.holds(2, "Twenty bytes come behind the TAPE");
        PinnedSky sky = new PinnedSky();
        Check.tape(sky, "gale 1;tree 3 4;need");
        sky.end(18);
        // what was cut off is gone, what comes now stands behind the 18 bytes: "ne" and "ed 4 5"
        sky.feed(0x65642034, 0x20352020, 0x20202020, 0x20202020, 0x20202020);
        Check.due("38 bytes", State.bytes(sky), 38);
        Check.due("a text of two feeds", sky.sky(), 1);
        Check.due("its need", sky.place(4, 1), 5);
        Check.due("its tree", sky.place(3, 2), 4);
    }

    private static void endAtItsBounds() {
        Check.holds(3, "The TAPE has its first n bytes alone: true");
        PinnedSky sky = fullTape();
        Check.due("end 400 of 400", sky.end(400), true);
        Check.due("400 bytes", State.bytes(sky), 400);
        Check.due("end 399 of 400", sky.end(399), true);
        Check.due("399 bytes", State.bytes(sky), 399);
        Check.throwsDue("a text without its last byte", IllegalArgumentException.class, () -> sky.sky());
        Check.due("what must come at its end", sky.fault(), 399);
        PinnedSky few = new PinnedSky();
        Check.tape(few, "pin 12");
        Check.due("end 5 of 6", few.end(5), true);
        Check.due("end 5 of 5", few.end(5), true);
        few.sky();
        Check.due("the first five alone", few.count(7), Check.set(1));
    }

    private static void endThatIsRefused() {
        Check.holds(3, "false, and nothing happens, if it has fewer, or n is below 0.");
        PinnedSky sky = new PinnedSky();
        Check.tape(sky, "pin 12");
        for (int n : FAR) {
            Check.due("end " + n, sky.end(n), false);
        }
        for (int n : new int[] {7, 8, 20, 21, 400, 401, Integer.MAX_VALUE}) {
            Check.due("end " + n + " of 6", sky.end(n), false);
        }
        Check.due("six bytes yet", State.bytes(sky), 6);
        sky.sky();
        Check.due("the text is as it was", sky.count(7), Check.set(12));
        PinnedSky full = fullTape();
        Check.due("end 401 of 400", full.end(401), false);
        Check.due("end -1 of 400", full.end(-1), false);
        Check.due("400 bytes yet", State.bytes(full), 400);
        PinnedSky empty = new PinnedSky();
        Check.due("end 1 of none", empty.end(1), false);
        Check.due("end -1 of none", empty.end(-1), false);
    }

    private static void endOfAllAndNothing() {
        Check.holds(3, "The TAPE has its first n bytes alone: true");
        PinnedSky empty = new PinnedSky();
        Check.due("end 0 of none", empty.end(0), true);
        PinnedSky sky = fullTape();
        Check.due("end 0 of 400", sky.end(0), true);
        Check.due("no byte", State.bytes(sky), 0);
        Check.due("an empty text", sky.sky(), 1);
        Check.due("no pin", sky.count(7), 0);
        Check.due("end 1 of a tape that is used up", sky.end(1), false);
        Check.due("end 0 of a tape that is used up", sky.end(0), true);
    }

    private static void callsUpTo512() {
        Check.holds(1, "An object is used for at most 512 calls after it has been made");
        PinnedSky sky = new PinnedSky();
        int[] answers = new int[510];
        for (int call = 0; call < answers.length; call++) {
            answers[call] = sky.height(call % 40 + 1);
        }
        int[] due = new int[510];
        for (int call = 0; call < due.length; call++) {
            due[call] = call == 0 ? 20 : (call - 1) % 40 + 1;
        }
        Check.due("510 acts", Arrays.toString(answers), Arrays.toString(due));
        Check.due("call 511", sky.count(11), 12);
        Check.due("call 512", sky.undo(), true);
        PinnedSky old = new PinnedSky();
        for (int call = 0; call < 511; call++) {
            old.days(60);
        }
        Check.due("call 512: the day", old.count(3), 9999);
    }
}
