import java.util.NoSuchElementException;

/** Edges of promises 7 and 8: what can be asked of a place and of a pinner; how high the sky hangs, and who stands. */
public final class EdgePlacesTest {
    private static final int[] NO_PLACE = {Integer.MIN_VALUE, -17, -16, -2, -1, 16, 17, 31, 32, 64, Integer.MAX_VALUE};

    public static void main(String[] args) {
        placesFrom0To15();
        whatOfAPlace();
        skyIsNeverBelow0();
        skyWithoutAPinThatHolds();
        skyOfTheGreatest();
        treesCountTwice();
        standsByItsNeed();
        tightAndHeightAtTheirBounds();
        pinnersFrom0On();
        whatOfAPinner();
        refusedAsking();
        Check.finish("EdgePlacesTest");
    }

    private static void placesFrom0To15() {
        Check.holds(7, "PLACES 0 to 15 in a row.");
        PinnedSky sky = Check.sky("ground 0 3;ground 15 4");
        Check.due("place 0", sky.place(0, 0), 3);
        Check.due("place 15", sky.place(15, 0), 4);
        Check.holds(7, "IndexOutOfBoundsException: there is no such PLACE, PINNER.");
        for (int place : NO_PLACE) {
            Check.throwsDue("place " + place, IndexOutOfBoundsException.class, () -> sky.place(place, 0));
        }
        Check.holds(7, "Of several exceptions the one told first is thrown");
        for (int place : NO_PLACE) {
            Check.throwsDue("place " + place + ", what 10", IndexOutOfBoundsException.class, () -> sky.place(place, 10));
        }
    }

    private static void whatOfAPlace() {
        Check.holds(7, "0 GROUND, 1 NEED, 2 TREE, 3 1 with a LADDER, 4 1 with a PIN, 5 RUST (0 without), 6 STRAIN, "
            + "7 1 if its PIN HOLDS, 8 SKY, 9 1 if it STANDS.");
        PinnedSky sky = Check.sky("ground 3 1;need 3 2;tree 3 4;pin 3 rust 6;bare 4;pin 9 rust 60;need 9 20", "strain 7");
        int[] three = {1, 2, 4, 1, 1, 6, 11, 1, 12, 1};
        int[] four = {0, 0, 0, 0, 0, 0, 7, 0, 17, 1};
        int[] nine = {0, 20, 0, 1, 1, 60, 7, 0, 2, 0};
        for (int what = 0; what < 10; what++) {
            Check.due("place 3, what " + what, sky.place(3, what), three[what]);
            Check.due("place 4, what " + what, sky.place(4, what), four[what]);
            Check.due("place 9, what " + what, sky.place(9, what), nine[what]);
        }
        Check.holds(7, "NoSuchElementException: another what.");
        for (int what : new int[] {Integer.MIN_VALUE, -10, -1, 10, 11, 16, 255, 256, Integer.MAX_VALUE}) {
            Check.throwsDue("what " + what, NoSuchElementException.class, () -> sky.place(0, what));
            Check.throwsDue("what " + what + " of 15", NoSuchElementException.class, () -> sky.place(15, what));
        }
    }

    private static void skyIsNeverBelow0() {
        Check.holds(7, "the greatest of HEIGHT less TIGHT for each step to a PIN that HOLDS, of all such PINS (0 at least; "
            + "0 without any)");
        PinnedSky sky = Check.sky("pin 0");
        int[] hangs = {20, 17, 14, 11, 8, 5, 2, 0, 0, 0, 0, 0, 0, 0, 0, 0};
        for (int place = 0; place < 16; place++) {
            Check.due("sky at " + place, sky.place(place, 8), hangs[place]);
        }
        sky.height(21);
        Check.due("21 less seven times 3", sky.place(7, 8), 0);
        sky.height(22);
        Check.due("22 less seven times 3", sky.place(7, 8), 1);
    }

    private static void skyWithoutAPinThatHolds() {
        Check.holds(7, "0 without any");
        PinnedSky sky = Check.sky("pin 3 rust 60;height 40;tight 0");
        for (int place = 0; place < 16; place++) {
            Check.due("sky at " + place + " by no pin that holds", sky.place(place, 8), 0);
        }
        Check.due("sky by no pin at all", Check.sky("height 40;tight 0").place(3, 8), 0);
        PinnedSky one = Check.sky("pin 3 rust 59;height 40;tight 0");
        Check.due("sky by one that holds", one.place(15, 8), 40);
    }

    private static void skyOfTheGreatest() {
        Check.holds(7, "the greatest of HEIGHT less TIGHT for each step to a PIN that HOLDS, of all such PINS");
        PinnedSky sky = Check.sky("pin 2;pin 9;pin 5 rust 60");
        Check.due("by 2", sky.place(5, 8), 11);
        Check.due("by 9", sky.place(6, 8), 11);
        Check.due("by 2, below it", sky.place(0, 8), 14);
        Check.due("by 9, above it", sky.place(15, 8), 2);
        PinnedSky ends = Check.sky("pin 0;pin 15;tight 1");
        Check.due("between both ends, nearer to 0", ends.place(7, 8), 13);
        Check.due("between both ends, nearer to 15", ends.place(8, 8), 13);
        Check.due("at 15", ends.place(15, 8), 20);
    }

    private static void treesCountTwice() {
        Check.holds(7, "less its TREE twice (0 at least)");
        PinnedSky sky = Check.sky("pin 3;tree 3 9");
        sky.height(19);
        Check.due("19 less 18", sky.place(3, 8), 1);
        sky.height(18);
        Check.due("18 less 18", sky.place(3, 8), 0);
        sky.height(17);
        Check.due("17 less 18", sky.place(3, 8), 0);
        sky.height(1);
        Check.due("1 less 18", sky.place(3, 8), 0);
        Check.due("a tree of 1", Check.sky("pin 3;tree 3 1").place(3, 8), 18);
        Check.due("a tree beside", Check.sky("pin 3;tree 4 9").place(3, 8), 20);
        // 2 less 3 is 0 at least, and only then its tree counts
        Check.due("a tree where it hangs at 0", Check.sky("pin 3;height 2;tree 4 1").place(4, 8), 0);
        Check.due("a tree without a pin", Check.sky("tree 4 9").place(4, 8), 0);
    }

    private static void standsByItsNeed() {
        Check.holds(7, "STANDS: SKY at it less GROUND is NEED at least.");
        Check.due("20 of 20", Check.sky("pin 3;need 3 20").place(3, 9), 1);
        Check.due("19 of 20", Check.sky("pin 3;need 3 20;height 19").place(3, 9), 0);
        Check.due("20 less 5 of 15", Check.sky("pin 3;need 3 15;ground 3 5").place(3, 9), 1);
        Check.due("20 less 6 of 15", Check.sky("pin 3;need 3 15;ground 3 6").place(3, 9), 0);
        Check.due("17 of 17, a step away", Check.sky("pin 3;need 4 17").place(4, 9), 1);
        Check.due("17 of 18, a step away", Check.sky("pin 3;need 4 18").place(4, 9), 0);
        Check.due("0 of 0", Check.sky("ground 3 0").place(3, 9), 1);
        Check.due("0 less 1 of 0", Check.sky("ground 3 1").place(3, 9), 0);
        Check.due("0 less 9 of 0", Check.sky("ground 3 9").place(3, 9), 0);
        Check.due("0 of 1", Check.sky("need 3 1").place(3, 9), 0);
        Check.due("9 less 9 of 0", Check.sky("pin 3;ground 3 9;height 9").place(3, 9), 1);
        Check.due("8 less 9 of 0", Check.sky("pin 3;ground 3 9;height 8").place(3, 9), 0);
        Check.due("29 less 9 of 20", Check.sky("pin 3;ground 3 9;need 3 20;height 29").place(3, 9), 1);
        Check.due("28 less 9 of 20", Check.sky("pin 3;ground 3 9;need 3 20;height 28").place(3, 9), 0);
    }

    private static void tightAndHeightAtTheirBounds() {
        Check.holds(7, "TIGHT 0 to 9 (3 at first): how much the sky falls for each step away from a PIN that holds.");
        PinnedSky slack = Check.sky("pin 0;tight 0;height 40");
        Check.due("tight 0", slack.place(15, 8), 40);
        PinnedSky tight = Check.sky("pin 0;tight 9;height 40");
        Check.due("tight 9, four steps", tight.place(4, 8), 4);
        Check.due("tight 9, five steps", tight.place(5, 8), 0);
        PinnedSky low = Check.sky("pin 0;height 1;tight 1");
        Check.due("height 1", low.place(0, 8), 1);
        Check.due("height 1, a step away", low.place(1, 8), 0);
    }

    private static void pinnersFrom0On() {
        Check.holds(8, "IndexOutOfBoundsException: there is no such PLACE, PINNER.");
        PinnedSky none = new PinnedSky();
        PinnedSky one = Check.sky("pinner 7 pace 8 brass 9");
        PinnedSky five = Check.sky(Check.each("pinner # pace 1 brass #", 5, 9));
        for (int pinner : new int[] {Integer.MIN_VALUE, -2, -1, 0, 1, 4, 5, 6, Integer.MAX_VALUE}) {
            Check.throwsDue("pinner " + pinner + " of none", IndexOutOfBoundsException.class, () -> none.pinner(pinner, 0));
            if (pinner != 0) {
                Check.throwsDue(pinner + " of one", IndexOutOfBoundsException.class, () -> one.pinner(pinner, 0));
            }
            if (pinner < 0 || pinner > 4) {
                Check.throwsDue(pinner + " of five", IndexOutOfBoundsException.class, () -> five.pinner(pinner, 0));
            }
        }
        Check.due("the first of five", five.pinner(0, 0), 5);
        Check.due("the last of five", five.pinner(4, 0), 9);
        Check.holds(8, "Of several exceptions the one told first is thrown");
        Check.throwsDue("pinner 5, what 3", IndexOutOfBoundsException.class, () -> five.pinner(5, 3));
        Check.throwsDue("pinner -1, what -1", IndexOutOfBoundsException.class, () -> five.pinner(-1, -1));
    }

    private static void whatOfAPinner() {
        Check.holds(8, "Of a PINNER what 0 its PLACE, 1 PACE, 2 BRASS.");
        PinnedSky sky = Check.sky("pinner 7 pace 8 brass 9");
        Check.due("place", sky.pinner(0, 0), 7);
        Check.due("pace", sky.pinner(0, 1), 8);
        Check.due("brass", sky.pinner(0, 2), 9);
        Check.holds(8, "NoSuchElementException: another what.");
        for (int what : new int[] {Integer.MIN_VALUE, -1, 3, 4, Integer.MAX_VALUE}) {
            Check.throwsDue("what " + what, NoSuchElementException.class, () -> sky.pinner(0, what));
        }
    }

    /** Pins, a pinner, acts, an image, and a text on the tape. */
    private static PinnedSky rich() {
        PinnedSky sky = Check.sky("pin 3 rust 9;pinner 4 pace 3 brass 2;tree 5 5;need 4 7;gale 30", "rust 2;strain 1");
        sky.pin(0);
        sky.image();
        sky.fell(5);
        Check.tape(sky, "stock 77;pin 14");
        return sky;
    }

    private static void refusedAsking() {
        Check.holds(7, "a call that throws changes nothing but the TAPE, where it is used up");
        for (int no : new int[] {-1, 16}) {
            Check.refused("place " + no, IndexOutOfBoundsException.class, EdgePlacesTest::rich, sky -> sky.place(no, 0));
        }
        for (int no : new int[] {-1, 10}) {
            Check.refused("place 3, what " + no, NoSuchElementException.class, EdgePlacesTest::rich, sky -> sky.place(3, no));
        }
        Check.holds(8, "a call that throws changes nothing but the TAPE, where it is used up");
        for (int no : new int[] {-1, 1}) {
            Check.refused("pinner " + no, IndexOutOfBoundsException.class, EdgePlacesTest::rich, sky -> sky.pinner(no, 0));
        }
        for (int no : new int[] {-1, 3}) {
            Check.refused("pinner 0, what " + no, NoSuchElementException.class, EdgePlacesTest::rich,
                sky -> sky.pinner(0, no));
        }
        Check.holds(9, "a call that throws changes nothing but the TAPE, where it is used up");
        for (int no : new int[] {-1, 16}) {
            Check.refused("rusts " + no, IndexOutOfBoundsException.class, EdgePlacesTest::rich, sky -> sky.rusts(no));
        }
    }
}
