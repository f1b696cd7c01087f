/** Edges of promises 10 to 16: pinning, changing, going, pulling, handing, felling, and the height. */
public final class EdgeActsTest {
    private static final int[] NO_PLACE = {Integer.MIN_VALUE, -2, -1, 16, 17, 32, Integer.MAX_VALUE};
    private static final int[] NO_PINNER = {Integer.MIN_VALUE, -2, -1, 3, 4, 5, 6, Integer.MAX_VALUE};

    public static void main(String[] args) {
        pins();
        refusedPins();
        changes();
        refusedChanges();
        goesItsPace();
        refusedGoes();
        pulls();
        refusedPulls();
        hands();
        refusedHands();
        fells();
        refusedFells();
        heights();
        refusedHeights();
        nobodyActs();
        Check.finish("EdgeActsTest");
    }

    /** Three pinners: at 3 with brass and a pin, at 8 without a ladder, at 12 without brass; a text on the tape. */
    private static PinnedSky rich() {
        PinnedSky sky = Check.sky("pin 3 rust 44;pinner 3 pace 4 brass 2;pinner 8 pace 9 brass 30;bare 8;"
            + "pinner 12 pace 1 brass 0;tree 5 6;need 4 17;stock 29;gale 20;pin 9;pin 1", "strain 1 if gap<9;rust 1");
        sky.height(22);
        sky.pull(9);
        sky.image();
        sky.fell(5);
        Check.tape(sky, "stock 77;pin 14");
        return sky;
    }

    private static void pins() {
        Check.holds(10, "A PINNER pins: its PLACE.");
        PinnedSky sky = Check.sky("pinner 0 pace 9 brass 1;pinner 15 pace 1 brass 30");
        Check.due("at 0", sky.pin(0), 0);
        Check.due("at 15", sky.pin(1), 15);
        Check.holds(10, "a PINNER pins at its PLACE (that has a LADDER and no PIN): one BRASS less");
        Check.due("brass of 1 less", sky.pinner(0, 2), 0);
        Check.due("brass of 30 less", sky.pinner(1, 2), 29);
        Check.due("pins", sky.count(7), Check.set(0, 15));
        Check.due("rust of a new one", sky.place(0, 5), 0);
        Check.due("two acts", sky.count(11), 2);
        Check.due("stock stays", sky.count(6), 0);
        PinnedSky again = Check.sky("pin 3 rust 44;pinner 3 pace 1 brass 1");
        again.pull(3);
        again.pin(0);
        Check.due("rust where a rusty one was pulled", again.place(3, 5), 0);
        PinnedSky lost = Check.sky("pin 3 rust 59;pinner 3 pace 1 brass 1");
        lost.days(1);
        lost.pin(0);
        Check.due("rust where a rusty one went", lost.place(3, 5), 0);
    }

    private static void refusedPins() {
        Check.holds(10, "IllegalStateException: there is no LADDER, there is a PIN, or it has no BRASS.");
        Check.refused("pin where a pin is", IllegalStateException.class, EdgeActsTest::rich, sky -> sky.pin(0));
        Check.refused("pin without a ladder", IllegalStateException.class, EdgeActsTest::rich, sky -> sky.pin(1));
        Check.refused("pin without brass", IllegalStateException.class, EdgeActsTest::rich, sky -> sky.pin(2));
        Check.refused("pin without a ladder, on a pin, without brass", IllegalStateException.class,
            () -> Check.sky("pin 3;bare 3;pinner 3 pace 1 brass 0"), sky -> sky.pin(0));
        Check.refused("pin without a ladder alone", IllegalStateException.class,
            () -> Check.sky("bare 3;pinner 3 pace 1 brass 9"), sky -> sky.pin(0));
        Check.holds(10, "IndexOutOfBoundsException: there is no such PLACE, PINNER.");
        for (int pinner : NO_PINNER) {
            Check.refused("pin " + pinner, IndexOutOfBoundsException.class, EdgeActsTest::rich, sky -> sky.pin(pinner));
        }
    }

    private static void changes() {
        Check.holds(11, "A PINNER changes the PIN: RUST that it had.");
        PinnedSky sky = Check.sky("pin 0 rust 99;pin 15;pinner 0 pace 1 brass 1;pinner 15 pace 1 brass 2");
        Check.due("rust 99", sky.change(0), 99);
        Check.due("rust 0", sky.change(1), 0);
        Check.due("an unrusted one again", sky.change(1), 0);
        Check.holds(11, "or changes its PIN (RUST 0, one BRASS less; it has a LADDER)");
        Check.due("its rust", sky.place(0, 5), 0);
        Check.due("its brass", sky.pinner(0, 2), 0);
        Check.due("brass behind two", sky.pinner(1, 2), 0);
        Check.due("pins", sky.count(7), Check.set(0, 15));
        Check.due("stock stays", sky.count(6), 0);
        Check.due("none is gone", sky.count(9), 0);
        Check.due("three acts", sky.count(11), 3);
        Check.due("three rows", sky.count(10), 3);
    }

    private static void refusedChanges() {
        Check.holds(11, "IllegalStateException: there is no LADDER, no PIN, or it has no BRASS.");
        Check.refused("change without a ladder", IllegalStateException.class,
            () -> Check.sky("pin 3;bare 3;pinner 3 pace 1 brass 9"), sky -> sky.change(0));
        Check.refused("change without a pin", IllegalStateException.class,
            () -> Check.sky("pin 4;pinner 3 pace 1 brass 9"), sky -> sky.change(0));
        Check.refused("change without brass", IllegalStateException.class,
            () -> Check.sky("pin 3;pinner 3 pace 1 brass 0"), sky -> sky.change(0));
        Check.refused("change of no pin without brass", IllegalStateException.class, EdgeActsTest::rich,
            sky -> sky.change(2));
        Check.holds(11, "IndexOutOfBoundsException: there is no such PLACE, PINNER.");
        for (int pinner : NO_PINNER) {
            Check.refused("change " + pinner, IndexOutOfBoundsException.class, EdgeActsTest::rich,
                sky -> sky.change(pinner));
        }
    }

    private static void goesItsPace() {
        Check.holds(12, "a PINNER goes as many PLACES as PACE at most");
        PinnedSky sky = Check.sky("pinner 5 pace 4 brass 0;pinner 0 pace 9 brass 0;pinner 15 pace 1 brass 0");
        Check.due("one less than its pace", sky.go(0, 8), 3);
        Check.due("as many as its pace, down", sky.go(0, 4), 4);
        Check.due("as many as its pace, up", sky.go(0, 8), 4);
        Check.due("its place", sky.pinner(0, 0), 8);
        Check.due("nine up from 0", sky.go(1, 9), 9);
        Check.due("nine down to 0", sky.go(1, 0), 9);
        Check.due("one down from 15", sky.go(2, 14), 1);
        Check.due("one up to 15", sky.go(2, 15), 1);
        Check.holds(12, "how many steps");
        Check.due("no step", sky.go(2, 15), 0);
        Check.due("no step from 0", sky.go(1, 0), 0);
        Check.due("nine acts", sky.count(11), 9);
        Check.due("no row of the log", sky.count(10), 0);
    }

    private static void refusedGoes() {
        Check.holds(12, "IllegalArgumentException: they are more than PACE.");
        Check.refused("five of pace 4, up", IllegalArgumentException.class, EdgeActsTest::rich, sky -> sky.go(0, 8));
        Check.refused("five of pace 4, down", IllegalArgumentException.class,
            () -> Check.sky("pinner 6 pace 4 brass 0"), sky -> sky.go(0, 1));
        Check.refused("fifteen of pace 9", IllegalArgumentException.class,
            () -> Check.sky("pinner 0 pace 9 brass 0"), sky -> sky.go(0, 15));
        Check.refused("ten of pace 9", IllegalArgumentException.class,
            () -> Check.sky("pinner 15 pace 9 brass 0"), sky -> sky.go(0, 5));
        Check.refused("two of pace 1", IllegalArgumentException.class, EdgeActsTest::rich, sky -> sky.go(2, 14));
        Check.holds(12, "IndexOutOfBoundsException: there is no such PLACE, PINNER.");
        for (int place : NO_PLACE) {
            Check.refused("go to " + place, IndexOutOfBoundsException.class, EdgeActsTest::rich, sky -> sky.go(2, place));
        }
        for (int pinner : NO_PINNER) {
            Check.refused("go of " + pinner, IndexOutOfBoundsException.class, EdgeActsTest::rich,
                sky -> sky.go(pinner, 3));
        }
        Check.refused("no pinner to no place", IndexOutOfBoundsException.class, EdgeActsTest::rich, sky -> sky.go(3, 16));
    }

    private static void pulls() {
        Check.holds(13, "A PIN is pulled: RUST that it had.");
        PinnedSky sky = Check.sky("pin 0 rust 99;pin 15;pin 7 rust 60;bare 7");
        Check.due("rust 99", sky.pull(0), 99);
        Check.due("rust 0", sky.pull(15), 0);
        Check.due("where no ladder is, and it does not hold", sky.pull(7), 60);
        Check.due("no pin is left", sky.count(7), 0);
        Check.due("no rust without", sky.place(0, 5), 0);
        Check.due("they are not gone", sky.count(9), 0);
        Check.holds(13, "a PIN is pulled (one more in STOCK, 999 at most)");
        Check.due("three in stock", sky.count(6), 3);
        PinnedSky full = Check.sky("pin 1;pin 2;pin 3;stock 997");
        full.pull(1);
        Check.due("998", full.count(6), 998);
        full.pull(2);
        Check.due("999", full.count(6), 999);
        Check.due("pulled all the same", full.pull(3), 0);
        Check.due("999 at most", full.count(6), 999);
        Check.due("no pin is left", full.count(7), 0);
        Check.due("all 16", pullAll(), 16);
    }

    private static int pullAll() {
        PinnedSky sky = Check.everywhere("pin #");
        for (int place = 0; place < 16; place++) {
            sky.pull(place);
        }
        return sky.count(6);
    }

    private static void refusedPulls() {
        Check.holds(13, "IllegalStateException: there is none.");
        for (int place : new int[] {0, 2, 4, 9, 15}) {
            Check.refused("pull " + place, IllegalStateException.class, EdgeActsTest::rich, sky -> sky.pull(place));
        }
        Check.refused("pull of a new sky", IllegalStateException.class, PinnedSky::new, sky -> sky.pull(0));
        PinnedSky twice = Check.sky("pin 3");
        twice.pull(3);
        Check.throwsDue("pulled twice", IllegalStateException.class, () -> twice.pull(3));
        Check.due("one in stock", twice.count(6), 1);
        Check.holds(13, "IndexOutOfBoundsException: there is no such PLACE, PINNER.");
        for (int place : NO_PLACE) {
            Check.refused("pull " + place, IndexOutOfBoundsException.class, EdgeActsTest::rich, sky -> sky.pull(place));
        }
    }

    private static void hands() {
        Check.holds(14, "BRASS is handed: how much it has then.");
        PinnedSky sky = Check.sky("pinner 0 pace 1 brass 0;pinner 0 pace 1 brass 29;pinner 0 pace 1 brass 0;stock 61");
        Check.due("30 to one who has none", sky.hand(0, 30), 30);
        Check.due("1 to one who has 29", sky.hand(1, 1), 30);
        Check.due("1 to one who has none", sky.hand(2, 1), 1);
        Check.due("29 to one who has 1: all of the stock", sky.hand(2, 29), 30);
        Check.holds(14, "BRASS is handed from STOCK to a PINNER (30 at most)");
        Check.due("stock", sky.count(6), 0);
        Check.due("brass of all", sky.count(8), 90);
        PinnedSky rich = Check.sky("pinner 0 pace 1 brass 0;stock 999");
        rich.hand(0, 30);
        Check.due("stock less 30", rich.count(6), 969);
    }

    private static void refusedHands() {
        Check.holds(14, "IllegalArgumentException: n is none (1 to 30)");
        for (int n : new int[] {Integer.MIN_VALUE, -30, -1, 0, 31, 32, Integer.MAX_VALUE}) {
            Check.refused("hand " + n, IllegalArgumentException.class, EdgeActsTest::rich, sky -> sky.hand(2, n));
            Check.refused("hand " + n + " to one who has 30", IllegalArgumentException.class, EdgeActsTest::rich,
                sky -> sky.hand(1, n));
        }
        Check.holds(14, "IllegalStateException: STOCK is less, or it would have more than 30.");
        // 30 are in stock, by 29 and a pulled pin
        Check.due("as much as the stock", rich().hand(2, 30), 30);
        Check.refused("more than 30 by 1", IllegalStateException.class, EdgeActsTest::rich, sky -> sky.hand(0, 29));
        Check.due("30 by 28", rich().hand(0, 28), 30);
        Check.refused("1 to one who has 30", IllegalStateException.class, EdgeActsTest::rich, sky -> sky.hand(1, 1));
        Check.refused("2 to one who has 29", IllegalStateException.class,
            () -> Check.sky("pinner 1 pace 1 brass 29;stock 9"), sky -> sky.hand(0, 2));
        Check.refused("one more than the stock", IllegalStateException.class,
            () -> Check.sky("pinner 1 pace 1 brass 0;stock 4"), sky -> sky.hand(0, 5));
        Check.refused("of no stock", IllegalStateException.class,
            () -> Check.sky("pinner 1 pace 1 brass 0"), sky -> sky.hand(0, 1));
        Check.holds(14, "IndexOutOfBoundsException: there is no such PLACE, PINNER.");
        for (int pinner : NO_PINNER) {
            Check.refused("hand to " + pinner, IndexOutOfBoundsException.class, EdgeActsTest::rich,
                sky -> sky.hand(pinner, 1));
        }
        Check.holds(14, "Of several exceptions the one told first is thrown");
        Check.refused("0 to nobody", IndexOutOfBoundsException.class, EdgeActsTest::rich, sky -> sky.hand(3, 0));
        Check.refused("31 of no stock", IllegalArgumentException.class,
            () -> Check.sky("pinner 1 pace 1 brass 30"), sky -> sky.hand(0, 31));
    }

    private static void fells() {
        Check.holds(15, "A TREE is felled: what it was.");
        PinnedSky sky = Check.sky("tree 0 9;tree 15 1");
        Check.due("9 at 0", sky.fell(0), 9);
        Check.due("1 at 15", sky.fell(15), 1);
        Check.due("none at 7", sky.fell(7), 0);
        Check.due("again at 0", sky.fell(0), 0);
        Check.holds(15, "a TREE is felled (0)");
        Check.due("tree 0", sky.place(0, 2), 0);
        Check.due("tree 15", sky.place(15, 2), 0);
        Check.due("strain 0", sky.place(0, 6), 0);
        Check.due("four acts", sky.count(11), 4);
        Check.due("no row of the log", sky.count(10), 0);
    }

    private static void refusedFells() {
        Check.holds(15, "IndexOutOfBoundsException: there is no such PLACE, PINNER.");
        for (int place : NO_PLACE) {
            Check.refused("fell " + place, IndexOutOfBoundsException.class, EdgeActsTest::rich, sky -> sky.fell(place));
        }
    }

    private static void heights() {
        Check.holds(16, "HEIGHT is told: what it was.");
        PinnedSky sky = Check.sky("pin 3");
        Check.due("1", sky.height(1), 20);
        Check.due("sky at 1", sky.place(3, 8), 1);
        Check.due("40", sky.height(40), 1);
        Check.due("sky at 40", sky.place(3, 8), 40);
        Check.due("2", sky.height(2), 40);
        Check.due("39", sky.height(39), 2);
        Check.due("39 again", sky.height(39), 39);
        Check.due("five acts", sky.count(11), 5);
    }

    private static void refusedHeights() {
        Check.holds(16, "IllegalArgumentException: it is none.");
        for (int n : new int[] {Integer.MIN_VALUE, -20, -1, 0, 41, 42, Integer.MAX_VALUE}) {
            Check.refused("height " + n, IllegalArgumentException.class, EdgeActsTest::rich, sky -> sky.height(n));
        }
    }

    /** A sky without pinners refuses all that pinners do, and has all else. */
    private static void nobodyActs() {
        Check.holds(10, "IndexOutOfBoundsException: there is no such PLACE, PINNER.");
        Check.refused("pin", IndexOutOfBoundsException.class, PinnedSky::new, sky -> sky.pin(0));
        Check.holds(11, "IndexOutOfBoundsException: there is no such PLACE, PINNER.");
        Check.refused("change", IndexOutOfBoundsException.class, PinnedSky::new, sky -> sky.change(0));
        Check.holds(12, "IndexOutOfBoundsException: there is no such PLACE, PINNER.");
        Check.refused("go", IndexOutOfBoundsException.class, PinnedSky::new, sky -> sky.go(0, 0));
        Check.holds(14, "IndexOutOfBoundsException: there is no such PLACE, PINNER.");
        Check.refused("hand", IndexOutOfBoundsException.class, PinnedSky::new, sky -> sky.hand(0, 1));
        PinnedSky five = Check.sky(Check.each("pinner # pace 1 brass 1", 0, 4));
        Check.due("the last of five", five.pin(4), 4);
        Check.refused("the sixth", IndexOutOfBoundsException.class,
            () -> Check.sky(Check.each("pinner # pace 1 brass 1", 0, 4)), sky -> sky.pin(5));
    }
}
