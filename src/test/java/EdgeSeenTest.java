/** Edges of promises 29 to 31: which pin is gone by heights that were seen, which ladder to climb, and the duke. */
public final class EdgeSeenTest {
    public static void main(String[] args) {
        setsOfPins();
        noneTold();
        bytesUpTo40();
        placesAndHeights();
        sure();
        heldWithoutThem();
        refusedSeen();
        usesTheTapeUp();
        climbNone();
        climbTheLeast();
        climbByParts();
        refusedClimb();
        dukeWithoutChoices();
        dukeAskedAgain();
        dukeOfAllPins();
        dukeAndGuild();
        Check.finish("EdgeSeenTest");
    }

    private static int seen(PinnedSky sky, boolean sure, int... told) {
        Check.tape(sky, told);
        return sky.seen(sure);
    }

    private static int climb(PinnedSky sky, int... told) {
        Check.tape(sky, told);
        return sky.climb();
    }

    private static void setsOfPins() {
        Check.holds(29, "of none, one, or two of the PINS that there are now it is asked whether SKY would be so");
        Check.due("no pin: none alone", seen(new PinnedSky(), false), 1);
        Check.due("one pin: none, it", seen(Check.sky("pin 15"), false), 2);
        Check.due("two pins", seen(Check.sky("pin 0;pin 15"), false), 4);
        Check.due("three pins: not all three", seen(Check.sky("pin 0;pin 7;pin 15"), false), 7);
        Check.due("sixteen pins", seen(Check.everywhere("pin #"), false), 137);
        Check.due("sixteen pins that do not hold", seen(Check.everywhere("pin # rust 60"), false), 137);
        PinnedSky pulled = Check.sky("pin 0;pin 7;pin 15");
        pulled.pull(7);
        Check.due("those that there are now", seen(pulled, false), 4);
    }

    private static void noneTold() {
        Check.holds(29, "IllegalArgumentException: the TAPE is not that (none may be told).");
        Check.due("none told", seen(Check.sky("pin 3"), false), 2);
        Check.due("none told, sure", seen(Check.sky("pin 3"), true), 0);
        Check.due("none told of no pin", seen(new PinnedSky(), true), 0);
        Check.due("none told, to climb", climb(Check.sky("pin 3")), 0);
    }

    private static int[] pairs(int count, int place, int height) {
        int[] bytes = new int[2 * count];
        for (int i = 0; i < bytes.length; i += 2) {
            bytes[i] = place;
            bytes[i + 1] = height;
        }
        return bytes;
    }

    private static void bytesUpTo40() {
        Check.holds(29, "of each two bytes: PLACE, how high; at most 40 bytes");
        PinnedSky sky = Check.sky("pin 3");
        Check.due("2 bytes", seen(sky, false, 3, 20), 1);
        Check.due("38 bytes", seen(sky, false, pairs(19, 3, 20)), 1);
        Check.due("40 bytes", seen(sky, false, pairs(20, 3, 20)), 1);
        int[] last = pairs(20, 3, 20);
        last[39] = 19;
        Check.due("40 bytes, the last pair counts", seen(sky, false, last), 0);
        int[] first = pairs(20, 3, 20);
        first[1] = 19;
        Check.due("40 bytes, the first pair counts", seen(sky, false, first), 0);
    }

    private static void placesAndHeights() {
        Check.holds(29, "told are PLACES and how high SKY hung there");
        PinnedSky sky = Check.sky("pin 0;pin 15;height 40;tight 1");
        Check.due("place 0, 40 high", seen(sky, false, 0, 40), 2);
        Check.due("place 15, 40 high", seen(sky, false, 15, 40), 2);
        Check.due("place 0, by 15 alone", seen(sky, false, 0, 25), 1);
        Check.due("0 high", seen(sky, false, 0, 0), 1);
        for (int height : new int[] {1, 24, 26, 39, 41, 127, 128, 255}) {
            Check.due(height + " high", seen(sky, false, 0, height), 0);
            Check.due(height + " high, sure", seen(sky, true, 0, height), 0);
        }
        Check.due("two heights of one place", seen(sky, false, 0, 40, 0, 25), 0);
        Check.due("two places", seen(sky, false, 0, 40, 15, 40), 1);
        Check.due("a tree counts", seen(Check.sky("pin 3;tree 3 9"), false, 3, 2), 1);
        Check.due("no pin: 0 high", seen(new PinnedSky(), false, 7, 0), 1);
        Check.due("no pin: 1 high", seen(new PinnedSky(), false, 7, 1), 0);
    }

    private static void sure() {
        Check.holds(29, "SURE: PINS that are in all of these, as bits (0 without).");
        PinnedSky sky = Check.sky("pin 0;pin 7;pin 15;tight 9");
        Check.due("none at 7", seen(sky, true, 7, 0), Check.set(7));
        Check.due("none at 7 and 15", seen(sky, true, 7, 0, 15, 0), Check.set(7, 15));
        Check.due("all of them are three", seen(sky, true, 0, 0, 7, 0, 15, 0), 0);
        Check.due("that fits none", seen(sky, false, 0, 0, 7, 0, 15, 0), 0);
        Check.due("its pin is there", seen(sky, true, 7, 20), 0);
        PinnedSky twins = Check.sky("pin 6;pin 8;tight 1");
        Check.due("either of both is gone: 19 at 7", seen(twins, false, 7, 19), 3);
        Check.due("none is surely gone", seen(twins, true, 7, 19), 0);
        Check.due("both are", seen(twins, true, 7, 0), Check.set(6, 8));
    }

    private static void heldWithoutThem() {
        Check.holds(29, "if just these were gone (all else as it is)");
        PinnedSky gap = Check.sky("pin 2 rust 50;pin 5", "strain 10 if gap<4");
        Check.due("2 holds if 5 is gone", seen(gap, true, 2, 20), Check.set(5));
        PinnedSky lone = Check.sky("pin 2 rust 50;pin 5;pin 9", "strain 10 if gap>15");
        Check.due("2 holds unless both others are gone", seen(lone, false, 2, 20), 3);
        Check.due("nothing is gone", lone.count(7), Check.set(2, 5, 9));
        PinnedSky rusty = Check.sky("pin 2 rust 60");
        Check.due("one that does not hold, there or gone", seen(rusty, false, 2, 0), 2);
    }

    /** Three pins, acts, an image, and these bytes on the tape. */
    private static PinnedSky rich(int... bytes) {
        PinnedSky sky = Check.sky("pin 3;pin 9 rust 20;pin 14;pinner 4 pace 1 brass 1;bare 3;need 4 7", "rust 3");
        sky.pin(0);
        sky.image();
        sky.days(1);
        Check.tape(sky, bytes);
        return sky;
    }

    private static int[][] wrongTapes() {
        return new int[][] {{3}, {3, 20, 4}, pairs(20, 3, 20), {16, 20}, {3, 20, 16, 20}, {255, 0}, {128, 0}, {32, 0},
            new int[39], new int[41], new int[42], new int[60], new int[399], new int[400]};
    }

    private static void refusedSeen() {
        Check.holds(29, "IllegalArgumentException: the TAPE is not that");
        for (int[] tape : wrongTapes()) {
            boolean right = tape.length == 40;
            for (boolean sure : new boolean[] {false, true}) {
                if (right) {
                    Check.due("40 bytes are right", Check.outcome(() -> rich(tape).seen(sure)).startsWith("throws"), false);
                } else {
                    Check.refusedWithItsTape("seen by " + tape.length + " bytes from " + tape[0],
                        IllegalArgumentException.class, () -> rich(tape), sky -> sky.seen(sure));
                }
            }
        }
        // the wrong place stands last of 40 bytes
        int[] late = pairs(20, 3, 20);
        late[38] = 16;
        Check.refusedWithItsTape("seen by a late 16", IllegalArgumentException.class, () -> rich(late),
            sky -> sky.seen(true));
    }

    private static void usesTheTapeUp() {
        Check.holds(29, "Uses the TAPE up");
        PinnedSky sky = rich(3, 20);
        sky.seen(false);
        Check.due("no byte is left", State.bytes(sky), 0);
        Check.due("all else is as it was", State.of(sky), State.of(rich()));
        Check.holds(30, "Uses the TAPE up");
        PinnedSky climbed = rich(3, 20);
        climbed.climb();
        Check.due("no byte is left", State.bytes(climbed), 0);
        Check.due("all else is as it was", State.of(climbed), State.of(rich()));
    }

    private static void climbNone() {
        Check.holds(30, "none with fewer than two, or without a LADDER");
        Check.due("no pin: one set", climb(new PinnedSky()), -1);
        Check.due("one pin: two sets", climb(Check.sky("pin 6")), 0);
        Check.due("one set fits", climb(Check.sky("pin 7"), 7, 20), -1);
        Check.due("no set fits", climb(Check.sky("pin 7"), 7, 19), -1);
        PinnedSky bare = Check.everywhere("bare #");
        Check.more(bare, "pin 3;pin 4");
        Check.due("no ladder", climb(bare), -1);
        PinnedSky one = Check.sky(Check.each("bare #", 0, 13));
        Check.more(one, "bare 14;pin 3");
        Check.due("one ladder, though it parts nothing", climb(one), 15);
    }

    private static void climbTheLeast() {
        Check.holds(30, "of several the least");
        // at 0 it hangs 0 with a pin at 7, by 20 less 21, as without it
        Check.due("0 parts nothing", climb(Check.sky("pin 7")), 1);
        Check.due("all part alike", climb(Check.sky("pin 7;tight 0")), 0);
        Check.due("the least with a ladder", climb(Check.sky("pin 7;tight 0;bare 0;bare 1")), 2);
        Check.due("none parts", climb(Check.sky("pin 7 rust 60;bare 0")), 1);
        // only 15 hangs by its pin
        Check.due("15 alone parts", climb(Check.sky("pin 15;tight 9;height 9")), 15);
    }

    private static void climbByParts() {
        Check.holds(30, "the PLACE with a LADDER by whose SKY these sets are parted so that the greatest part of one SKY is the "
            + "least");
        // none, 2, 3, both: at 2 it hangs 40, 37, 40, 0; at 3 40, 40, 37, 0; at 0 34, 31, 34, 0
        PinnedSky high = Check.sky("pin 2;pin 3;height 40");
        Check.due("at 40 high: parts of two everywhere", climb(high), 0);
        PinnedSky slack = Check.sky("pin 2;pin 3;height 40;tight 0");
        Check.due("parts of three everywhere", climb(slack), 0);
        // none, 2, 9, both; at 5: 11 by 2, 8 by 9 if 2 is gone, 11, 0; at 0 to 2: by 2, 0 or low; at 6: 11 by 9, 11, 8, 0
        PinnedSky far = Check.sky("pin 2;pin 9;bare 0;bare 1;bare 2;bare 3;bare 4");
        Check.due("the least of those that part in twos", climb(far), 5);
        PinnedSky told = Check.sky("pin 2;pin 9;pin 14;tight 9");
        // 2 is there: none, 9, 14, both gone; at 2 and 3 it is the same for all, at 8 it hangs 11, 0, 11, 0
        Check.due("of those that fit", climb(told, 2, 20), 7);
        Check.due("all 137 sets", climb(Check.everywhere("pin #")), 0);
        PinnedSky unparted = Check.everywhere("pin #");
        Check.more(unparted, "tight 0;bare 0");
        Check.due("all 137 sets are one part everywhere", climb(unparted), 1);
        // where a tree takes all 18, it hangs at 0 with the pin and without
        Check.due("trees hide it", climb(Check.sky("pin 7;tight 0;height 18;tree 0 9;tree 1 9")), 2);
        Check.due("trees of 8 do not", climb(Check.sky("pin 7;tight 0;height 18;tree 0 9;tree 1 8")), 1);
        Check.due("5 does not hold, there or gone", climb(Check.sky("pin 5 rust 60;pin 15;tight 9;height 9")), 15);
        Check.due("5 holds", climb(Check.sky("pin 5 rust 59;pin 15;tight 9;height 9")), 5);
    }

    private static void refusedClimb() {
        Check.holds(30, "IllegalArgumentException: the TAPE is not that.");
        for (int[] tape : wrongTapes()) {
            if (tape.length == 40) {
                Check.due("40 bytes are right", Check.outcome(() -> rich(tape).climb()).startsWith("throws"), false);
            } else {
                Check.refusedWithItsTape("climb by " + tape.length + " bytes from " + tape[0],
                    IllegalArgumentException.class, () -> rich(tape), sky -> sky.climb());
            }
        }
    }

    private static void dukeWithoutChoices() {
        Check.holds(31, "a duke pulls one of the PINS that there are, or none");
        PinnedSky bare = Check.everywhere("bare #");
        Check.due("neither has a choice", bare.duke(), 1);
        Check.more(bare, "need 3 1");
        Check.due("nor a reason", bare.duke(), 1);
        Check.more(bare, "pin 3");
        Check.due("he pulls the only one", bare.duke(), 1);
        Check.due("no pin: the guild's 17 are alike", new PinnedSky().duke(), 17);
        Check.holds(31, "a guild sets one new PIN (RUST 0, at a PLACE with a LADDER and without a PIN now), or none");
        Check.due("no pin: one place of need", Check.sky("need 3 20").duke(), 1);
        Check.due("no pin, no ladder there", Check.sky("need 3 20;bare 3").duke(), 16);
        Check.due("three places do", Check.sky("need 3 17").duke(), 3);
    }

    /** A choice that there was when it was asked before counts no more. */
    private static void dukeAskedAgain() {
        Check.holds(31, "a guild sets one new PIN (RUST 0, at a PLACE with a LADDER and without a PIN now), or none");
        PinnedSky sky = Check.sky("need 3 20");
        Check.due("the guild sets 3", sky.duke(), 1);
        Check.more(sky, "bare 3");
        Check.due("it cannot any more", sky.duke(), 16);
        PinnedSky pulled = Check.sky("pin 3;pin 9;need 3 20;need 9 20");
        Check.due("either of both, any of 15", pulled.duke(), 30);
        pulled.pull(3);
        // the guild sets 3, he pulls 9
        Check.due("he cannot pull 3 any more", pulled.duke(), 1);
    }

    private static void dukeOfAllPins() {
        Check.holds(31, "a duke pulls one of the PINS that there are, or none");
        PinnedSky all = Check.everywhere("pin #");
        Check.due("all 17 are alike, the guild has none", all.duke(), 17);
        Check.more(all, "need 3 20");
        Check.due("he pulls 3", all.duke(), 1);
        Check.more(all, "need 4 20;need 15 20");
        Check.due("any of three", all.duke(), 3);
        Check.due("no pin was pulled", all.count(7), 65535);
        Check.due("nor set", all.count(10), 0);
    }

    private static void dukeAndGuild() {
        Check.holds(31, "in how many pairs of choices neither would have more by another one of its own");
        // only a pin at 3 does: he pulls it, and the guild's 16 are alike
        Check.due("the guild is helpless", Check.sky("pin 3;need 3 20").duke(), 16);
        // a pin beside does, too: 2 or 4; then he is indifferent
        Check.due("a pin beside does", Check.sky("pin 3;need 3 17").duke(), 4);
        // one more and it does not
        Check.due("no pin beside does", Check.sky("pin 3;need 3 18").duke(), 16);
        Check.due("either of both, any of 15", Check.sky("pin 3;pin 9;need 3 20;need 9 20").duke(), 30);
        // a place that he empties is not free for the guild: it has a pin now
        Check.due("not where a pin is now", Check.sky("pin 3;need 3 20;bare 2;bare 4").duke(), 14);
        // the new one would let the old one go
        PinnedSky close = Check.sky("pin 3 rust 40;need 3 20", "strain 20 if gap<13");
        Check.due("he pulls, all is alike", close.duke(), 16);
        PinnedSky lone = Check.sky("pin 3 rust 40;need 3 20", "strain 20 if gap>15");
        // it holds by any new one; so he pulls it, and the guild is helpless by any of 15, or none
        Check.due("held by a new one", lone.duke(), 16);
    }
}
