/** Edges of promises 26 to 28: rounds of pinners, who goes where, and who comes before the wind. */
public final class EdgeCrewTest {
    private static final int[] NO_PINNER = {Integer.MIN_VALUE, -2, 5, 6, Integer.MAX_VALUE};

    public static void main(String[] args) {
        roundOfNone();
        roundsOneWay();
        roundsBothWays();
        refusedRounds();
        goesOfNobody();
        goesOfFive();
        goesRoundedUp();
        goesTheFirstWay();
        refusedGoes();
        goesUsesTheTapeUp();
        before();
        refusedBefore();
        Check.finish("EdgeCrewTest");
    }

    private static void rounds(int from, int places, int steps, int end) {
        PinnedSky sky = Check.sky("pinner " + from + " pace 1 brass 0");
        String call = "round from " + from + " over " + Integer.toBinaryString(places);
        Check.due(call, sky.round(0, places, false), steps);
        Check.due(call + ", the end", sky.round(0, places, true), end);
    }

    private static void roundOfNone() {
        Check.holds(26, "its PLACE without any");
        rounds(0, 0, 0, 0);
        rounds(7, 0, 0, 7);
        rounds(15, 0, 0, 15);
        Check.holds(26, "Sets are bits; of none they count for nothing.");
        rounds(7, 1 << 16, 0, 7);
        rounds(7, -65536, 0, 7);
        rounds(7, Integer.MIN_VALUE, 0, 7);
        rounds(7, -65536 | 1 << 9, 2, 9);
    }

    private static void roundsOneWay() {
        Check.holds(26, "the fewest steps by which it comes to each of them (from its PLACE; any end)");
        rounds(7, Check.set(7), 0, 7);
        rounds(7, Check.set(8), 1, 8);
        rounds(7, Check.set(6), 1, 6);
        rounds(0, Check.set(15), 15, 15);
        rounds(15, Check.set(0), 15, 0);
        rounds(0, 65535, 15, 15);
        rounds(15, 65535, 15, 0);
        rounds(0, Check.set(0), 0, 0);
        rounds(15, Check.set(15), 0, 15);
        rounds(7, Check.set(7, 12), 5, 12);
        rounds(7, Check.set(7, 2), 5, 2);
        rounds(7, Check.set(8, 9, 15), 8, 15);
    }

    private static void roundsBothWays() {
        Check.holds(26, "the end (the lesser, if both are alike; its PLACE without any)");
        rounds(7, Check.set(6, 8), 3, 6);
        rounds(7, Check.set(0, 14), 21, 0);
        rounds(8, Check.set(1, 15), 21, 1);
        rounds(7, Check.set(6, 9), 4, 9);
        rounds(7, Check.set(5, 8), 4, 5);
        rounds(7, 65535, 22, 15);
        rounds(8, 65535, 22, 0);
        rounds(1, 65535, 16, 15);
        rounds(14, 65535, 16, 0);
        rounds(7, Check.set(5, 6, 8, 9), 6, 5);
    }

    /** Five pinners, a text on the tape. */
    private static PinnedSky rich() {
        PinnedSky sky = Check.sky(Check.each("pinner # pace 2 brass 1", 3, 7) + ";pin 3;pin 9 rust 20;need 4 7", "rust 3");
        sky.pin(2);
        sky.image();
        sky.go(1, 6);
        Check.tape(sky, "stock 77");
        return sky;
    }

    private static void refusedRounds() {
        Check.holds(26, "IndexOutOfBoundsException: there is no such PLACE, PINNER.");
        for (int pinner : NO_PINNER) {
            for (boolean last : new boolean[] {false, true}) {
                Check.refused("round of " + pinner, IndexOutOfBoundsException.class, EdgeCrewTest::rich,
                    sky -> sky.round(pinner, 3, last));
            }
        }
        Check.refused("round of -1", IndexOutOfBoundsException.class, EdgeCrewTest::rich, sky -> sky.round(-1, 3, true));
        Check.refused("nobody's round", IndexOutOfBoundsException.class, PinnedSky::new, sky -> sky.round(0, 0, true));
        Check.due("the last of five", rich().round(4, 0, true), 7);
    }

    private static int goes(PinnedSky sky, int pinner, int... places) {
        Check.tape(sky, places);
        return sky.goes(pinner);
    }

    private static void goesOfNobody() {
        Check.holds(27, "all PINNERS and as many told PLACES (the TAPE: a byte for each PINNER, 0 to 15)");
        Check.due("nobody, no place", goes(new PinnedSky(), -1), 0);
        Check.refusedWithItsTape("nobody, one place", IllegalArgumentException.class, () -> taped(new PinnedSky(), 3),
            sky -> sky.goes(-1));
        Check.refusedWithItsTape("no such pinner", IndexOutOfBoundsException.class, PinnedSky::new, sky -> sky.goes(0));
        Check.due("one, one place", goes(Check.sky("pinner 3 pace 1 brass 0"), -1, 3), 0);
        Check.due("one, to its place", goes(Check.sky("pinner 3 pace 1 brass 0"), 0, 3), 0);
        Check.due("one from 0 to 15", goes(Check.sky("pinner 0 pace 1 brass 0"), -1, 15), 15);
        Check.due("one from 15 to 0", goes(Check.sky("pinner 15 pace 1 brass 0"), -1, 0), 15);
    }

    private static PinnedSky taped(PinnedSky sky, int... bytes) {
        Check.tape(sky, bytes);
        return sky;
    }

    private static void goesOfFive() {
        Check.holds(27, "so that DAYS (steps by PACE, rounded up) of the one who takes longest are the fewest");
        String five = Check.each("pinner # pace 1 brass 0", 0, 4);
        Check.due("all at their places, told the other way round", goes(Check.sky(five), -1, 4, 3, 2, 1, 0), 0);
        for (int pinner = 0; pinner < 5; pinner++) {
            Check.due("pinner " + pinner, goes(Check.sky(five), pinner, 4, 3, 2, 1, 0), 4 - pinner);
        }
        Check.due("one place for all", goes(Check.sky(five), -1, 15, 15, 15, 15, 15), 15);
        Check.due("one place for all, the first way", goes(Check.sky(five), 3, 15, 15, 15, 15, 15), 3);
        Check.due("eleven up each", goes(Check.sky(five), -1, 11, 12, 13, 14, 15), 11);
        // whoever goes to 0 takes no day; who goes to 15 takes eleven at least
        Check.due("the last to 15", goes(Check.sky(five), 4, 15, 3, 2, 1, 0), 0);
    }

    private static void goesRoundedUp() {
        Check.holds(27, "DAYS (steps by PACE, rounded up)");
        int[] pacesAndDays = {1, 9, 2, 5, 3, 3, 4, 3, 5, 2, 8, 2, 9, 1};
        for (int i = 0; i < pacesAndDays.length; i += 2) {
            PinnedSky sky = Check.sky("pinner 3 pace " + pacesAndDays[i] + " brass 0");
            Check.due("nine steps by " + pacesAndDays[i], goes(sky, -1, 12), pacesAndDays[i + 1]);
        }
        Check.due("one step by 9", goes(Check.sky("pinner 3 pace 9 brass 0"), -1, 4), 1);
        Check.due("ten steps by 9", goes(Check.sky("pinner 3 pace 9 brass 0"), -1, 13), 2);
        Check.due("no step by 9", goes(Check.sky("pinner 3 pace 9 brass 0"), -1, 3), 0);
    }

    private static void goesTheFirstWay() {
        Check.holds(27, "to which of them (its number on the TAPE) one goes in the first such way (PINNER 0 the least that "
            + "can be, then 1, ..)");
        String three = "pinner 5 pace 9 brass 0;pinner 5 pace 9 brass 0;pinner 5 pace 1 brass 0";
        // all ways but those with 2 sent to 7 take a day: 2 goes to 5 or 6, 0 to the least
        Check.due("days", goes(Check.sky(three), -1, 6, 5, 7), 1);
        Check.due("pinner 0", goes(Check.sky(three), 0, 6, 5, 7), 0);
        Check.due("pinner 1, the least but for what 2 needs", goes(Check.sky(three), 1, 6, 5, 7), 2);
        Check.due("pinner 2", goes(Check.sky(three), 2, 6, 5, 7), 1);
        String twins = "pinner 5 pace 2 brass 0;pinner 5 pace 2 brass 0";
        Check.due("alike: 0 to the first told", goes(Check.sky(twins), 0, 7, 3), 0);
        Check.due("alike: 1 to the other", goes(Check.sky(twins), 1, 7, 3), 1);
        Check.due("the same place twice", goes(Check.sky(twins), 0, 7, 7), 0);
        // the second way is the only one: 0 cannot have the least
        Check.due("not the least", goes(Check.sky("pinner 0 pace 1 brass 0;pinner 15 pace 1 brass 0"), 0, 15, 0), 1);
    }

    private static void refusedGoes() {
        Check.holds(27, "IllegalArgumentException: the TAPE is not that.");
        int[][] tapes = {{}, {1}, {1, 2, 3, 4}, {1, 2, 3, 4, 5, 6}, {16, 1, 2, 3, 4}, {1, 2, 3, 4, 16}, {0, 0, 255, 0, 0},
            {128, 0, 0, 0, 0}, {0, 0, 0, 0, 32}, new int[20], new int[400]};
        for (int[] tape : tapes) {
            for (int pinner : new int[] {-1, 0, 4}) {
                Check.refusedWithItsTape("goes " + pinner + " by " + tape.length + " bytes", IllegalArgumentException.class,
                    () -> retaped(tape), sky -> sky.goes(pinner));
            }
        }
        Check.holds(27, "IndexOutOfBoundsException: there is no such PINNER");
        for (int pinner : NO_PINNER) {
            Check.refusedWithItsTape("goes " + pinner, IndexOutOfBoundsException.class, () -> retaped(1, 2, 3, 4, 5),
                sky -> sky.goes(pinner));
            Check.refusedWithItsTape("goes " + pinner + " by a wrong tape", IndexOutOfBoundsException.class,
                () -> retaped(99), sky -> sky.goes(pinner));
        }
        Check.due("byte 0 and byte 15", goes(retaped(), -1, 0, 15, 0, 15, 0), 5);
    }

    private static PinnedSky retaped(int... bytes) {
        PinnedSky sky = rich();
        sky.end(0);
        Check.tape(sky, bytes);
        return sky;
    }

    private static void goesUsesTheTapeUp() {
        Check.holds(27, "Uses the TAPE up");
        PinnedSky sky = retaped(1, 2, 3, 4, 5);
        String before = State.of(rich());
        sky.goes(-1);
        Check.due("no byte is left", State.bytes(sky), 0);
        Check.due("nobody went", State.of(sky), before);
        PinnedSky refused = retaped(99);
        Check.throwsDue("a wrong tape", IllegalArgumentException.class, () -> refused.goes(-1));
        Check.due("no byte is left of it", State.bytes(refused), 0);
    }

    private static void before() {
        Check.holds(28, "BEFORE: PLACES to which some PINNER can come in N DAYS (0 to 20), as bits.");
        Check.due("nobody in 0", new PinnedSky().before(0), 0);
        Check.due("nobody in 20", new PinnedSky().before(20), 0);
        PinnedSky slow = Check.sky("pinner 0 pace 1 brass 0");
        Check.due("0 days", slow.before(0), 1);
        Check.due("1 day", slow.before(1), 3);
        Check.due("14 days", slow.before(14), 32767);
        Check.due("15 days", slow.before(15), 65535);
        Check.due("20 days", slow.before(20), 65535);
        PinnedSky fast = Check.sky("pinner 15 pace 9 brass 0");
        Check.due("fast, 0 days", fast.before(0), 32768);
        Check.due("fast, 1 day", fast.before(1), 65535 - 63);
        Check.due("fast, 2 days", fast.before(2), 65535);
        PinnedSky two = Check.sky("pinner 2 pace 1 brass 0;pinner 12 pace 2 brass 0");
        Check.due("either of two", two.before(1), Check.set(1, 2, 3, 10, 11, 12, 13, 14));
        PinnedSky five = Check.sky(Check.each("pinner # pace 1 brass 0", 11, 15));
        Check.due("five", five.before(0), Check.set(11, 12, 13, 14, 15));
    }

    private static void refusedBefore() {
        Check.holds(28, "IllegalArgumentException: N is none.");
        for (int n : new int[] {Integer.MIN_VALUE, -20, -1, 21, 22, Integer.MAX_VALUE}) {
            Check.refused("before " + n, IllegalArgumentException.class, EdgeCrewTest::rich, sky -> sky.before(n));
            Check.refused("nobody before " + n, IllegalArgumentException.class, PinnedSky::new, sky -> sky.before(n));
        }
    }
}
