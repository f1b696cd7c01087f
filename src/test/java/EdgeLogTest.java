import java.util.NoSuchElementException;

/** Edges of promises 43 and 44: the log's 60 rows, and what of it is led to a place. */
public final class EdgeLogTest {
    private static final int[] NO_PLACE = {Integer.MIN_VALUE, -2, -1, 16, 17, 32, Integer.MAX_VALUE};
    private static final int[] NO_WHAT = {Integer.MIN_VALUE, -1, 4, 5, Integer.MAX_VALUE};

    public static void main(String[] args) {
        emptyLog();
        rowsOfEachKind();
        whatIsNoRow();
        sixtyRows();
        roundAndRound();
        roundAndUndone();
        refusedWhat();
        ledOfNone();
        ledOfSome();
        ledOfRowsThatAreOut();
        refusedLed();
        Check.finish("EdgeLogTest");
    }

    private static void row(PinnedSky sky, int ago, int day, int place, int what, int rust) {
        int[] due = {day, place, what, rust};
        for (int i = 0; i < 4; i++) {
            Check.due("row " + ago + " ago, what " + i, sky.log(ago, i), due[i]);
        }
    }

    private static void noRow(PinnedSky sky, int ago) {
        for (int what = 0; what < 4; what++) {
            Check.due("row " + ago + " ago, what " + what, sky.log(ago, what), -1);
        }
    }

    private static void emptyLog() {
        Check.holds(44, "NONE without");
        for (int ago : new int[] {Integer.MIN_VALUE, -60, -1, 0, 1, 59, 60, Integer.MAX_VALUE}) {
            noRow(new PinnedSky(), ago);
            noRow(Check.everywhere("pin #"), ago);
        }
        PinnedSky one = Check.sky("pin 0");
        one.pull(0);
        row(one, 0, 0, 0, 2, 0);
        for (int ago : new int[] {Integer.MIN_VALUE, -1, 1, 2, 59, 60, 61, Integer.MAX_VALUE}) {
            noRow(one, ago);
        }
    }

    private static void rowsOfEachKind() {
        Check.holds(44, "the latest 60 PINS that came or went: DAY, the PLACE, 0 pinned, 1 changed, 2 pulled, 3 gone; RUST that it "
            + "had (0 of a new one)");
        PinnedSky sky = Check.sky("pinner 15 pace 1 brass 9;pin 0 rust 98;pin 7 rust 57", "rust 1;hold if place<1 and day<2");
        Check.due("pin", sky.pin(0), 15);
        row(sky, 0, 0, 15, 0, 0);
        sky.days(1);
        Check.due("change", sky.change(0), 1);
        row(sky, 0, 1, 15, 1, 1);
        row(sky, 1, 0, 15, 0, 0);
        Check.due("pull", sky.pull(15), 0);
        row(sky, 0, 1, 15, 2, 0);
        Check.due("7 goes on day 2, as 0 does", sky.days(2), 2);
        row(sky, 0, 2, 7, 3, 60);
        row(sky, 1, 2, 0, 3, 99);
        row(sky, 4, 0, 15, 0, 0);
        noRow(sky, 5);
        Check.due("rows", sky.count(10), 5);
        PinnedSky most = Check.sky("pin 0 rust 99");
        most.pull(0);
        row(most, 0, 0, 0, 2, 99);
    }

    private static void whatIsNoRow() {
        Check.holds(44, "the latest 60 PINS that came or went");
        PinnedSky sky = Check.sky("pin 3;pin 9 rust 20;pinner 4 pace 2 brass 1;tree 4 4;stock 3");
        Check.due("pins of a text", sky.count(10), 0);
        sky.go(0, 5);
        sky.hand(0, 1);
        sky.fell(4);
        sky.height(7);
        sky.days(3);
        sky.seed(4);
        Check.throwsDue("a refused pull", IllegalStateException.class, () -> sky.pull(0));
        sky.trial(60, true);
        sky.needs(60);
        Check.due("no pin came or went", sky.count(10), 0);
        Check.due("asking is no row", sky.log(0, 0), -1);
    }

    /** Pins and pulls at 2: two rows and a day a turn. */
    private static PinnedSky turns(int turns) {
        PinnedSky sky = Check.sky("pinner 2 pace 1 brass 30;stock 999", "rust 1");
        for (int turn = 0; turn < turns; turn++) {
            if (turn > 0 && turn % 30 == 0) {
                sky.hand(0, 30);
            }
            sky.pin(0);
            sky.days(1);
            sky.pull(2);
        }
        return sky;
    }

    private static void sixtyRows() {
        Check.holds(44, "the latest 60 PINS that came or went");
        PinnedSky fewer = turns(29);
        Check.due("58 rows", fewer.count(10), 58);
        row(fewer, 57, 0, 2, 0, 0);
        noRow(fewer, 58);
        PinnedSky full = turns(30);
        Check.due("60 rows", full.count(10), 60);
        row(full, 59, 0, 2, 0, 0);
        row(full, 58, 1, 2, 2, 1);
        row(full, 0, 30, 2, 2, 1);
        noRow(full, 60);
        full.hand(0, 1);
        full.pin(0);
        Check.due("60 rows at most", full.count(10), 60);
        row(full, 0, 30, 2, 0, 0);
        row(full, 1, 30, 2, 2, 1);
        // the oldest row is out
        row(full, 59, 1, 2, 2, 1);
        noRow(full, 60);
        full.undo();
        row(full, 59, 0, 2, 0, 0);
        row(full, 0, 30, 2, 2, 1);
        Check.due("60 rows yet", full.count(10), 60);
    }

    private static void roundAndRound() {
        Check.holds(44, "THE LOG so many ago (0 the latest)");
        PinnedSky sky = turns(100);
        Check.due("60 rows of 200", sky.count(10), 60);
        for (int ago = 0; ago < 60; ago += 2) {
            Check.due("day of the pull " + ago + " ago", sky.log(ago, 0), 100 - ago / 2);
            Check.due("what it was", sky.log(ago, 2), 2);
            Check.due("day of the pinning " + (ago + 1) + " ago", sky.log(ago + 1, 0), 99 - ago / 2);
            Check.due("what that was", sky.log(ago + 1, 2), 0);
        }
        Check.due("no older one", sky.log(60, 0), -1);
    }

    private static void roundAndUndone() {
        Check.holds(44, "the latest 60 PINS that came or went");
        PinnedSky sky = turns(40);
        sky.image();
        sky.pin(0);
        row(sky, 0, 40, 2, 0, 0);
        row(sky, 59, 11, 2, 2, 1);
        sky.undo();
        row(sky, 0, 40, 2, 2, 1);
        row(sky, 59, 10, 2, 0, 0);
        sky.days(7);
        sky.pin(0);
        row(sky, 0, 47, 2, 0, 0);
        row(sky, 1, 40, 2, 2, 1);
        sky.back();
        row(sky, 0, 40, 2, 2, 1);
        row(sky, 59, 10, 2, 0, 0);
        Check.due("60 rows", sky.count(10), 60);
    }

    private static PinnedSky rich() {
        PinnedSky sky = turns(3);
        sky.image();
        sky.height(7);
        Check.tape(sky, "stock 77");
        return sky;
    }

    private static void refusedWhat() {
        Check.holds(44, "NoSuchElementException: another what.");
        for (int what : NO_WHAT) {
            for (int ago : new int[] {Integer.MIN_VALUE, -1, 0, 5, 6, 60, Integer.MAX_VALUE}) {
                Check.refused("log " + ago + ", " + what, NoSuchElementException.class, EdgeLogTest::rich,
                    sky -> sky.log(ago, what));
            }
            Check.refused("log of none, " + what, NoSuchElementException.class, PinnedSky::new, sky -> sky.log(0, what));
        }
    }

    private static void ledOfNone() {
        Check.holds(43, "LED: how many rows (day false), or the DAY; NONE.");
        PinnedSky sky = Check.everywhere("pin #");
        for (int place = 0; place < 16; place++) {
            Check.due("rows of " + place, sky.led(place, false), 0);
            Check.due("day of " + place, sky.led(place, true), -1);
        }
    }

    private static void ledOfSome() {
        Check.holds(43, "LED: how many rows of THE LOG are of a PLACE; the DAY of the latest (none).");
        PinnedSky sky = Check.sky("pin 0;pin 15;pinner 0 pace 1 brass 2;pin 7 rust 54", "rust 1");
        sky.pull(0);
        Check.due("one row of 0", sky.led(0, false), 1);
        Check.due("on day 0", sky.led(0, true), 0);
        Check.due("none of 1", sky.led(1, false), 0);
        sky.days(5);
        sky.pin(0);
        sky.change(0);
        sky.pull(15);
        Check.due("three rows of 0", sky.led(0, false), 3);
        Check.due("the latest on day 5", sky.led(0, true), 5);
        Check.due("one row of 15", sky.led(15, false), 1);
        Check.due("on day 5", sky.led(15, true), 5);
        sky.days(3);
        Check.due("gone on day 5", sky.led(7, true), 5);
        Check.due("one row of 7", sky.led(7, false), 1);
        sky.undo();
        Check.due("none of 7 then", sky.led(7, false), 0);
        Check.due("no day of 7 then", sky.led(7, true), -1);
    }

    private static void ledOfRowsThatAreOut() {
        Check.holds(43, "how many rows of THE LOG are of a PLACE");
        PinnedSky sky = Check.sky("pin 9;pinner 2 pace 1 brass 30;stock 99", "rust 1");
        sky.pull(9);
        for (int turn = 0; turn < 29; turn++) {
            sky.pin(0);
            sky.pull(2);
        }
        Check.due("59 rows", sky.count(10), 59);
        sky.pin(0);
        Check.due("9 is the oldest of 60", sky.led(9, false), 1);
        Check.due("its day", sky.led(9, true), 0);
        Check.due("rows of 2", sky.led(2, false), 59);
        sky.days(1);
        sky.pull(2);
        Check.due("9 is out", sky.led(9, false), 0);
        Check.due("no day of it", sky.led(9, true), -1);
        Check.due("rows of 2 are all", sky.led(2, false), 60);
        Check.due("the latest on day 1", sky.led(2, true), 1);
    }

    private static void refusedLed() {
        Check.holds(43, "IndexOutOfBoundsException: there is no such PLACE, PINNER.");
        for (int place : NO_PLACE) {
            for (boolean day : new boolean[] {false, true}) {
                Check.refused("led " + place, IndexOutOfBoundsException.class, EdgeLogTest::rich,
                    sky -> sky.led(place, day));
            }
        }
    }
}
