import java.util.NoSuchElementException;

/** Promises 7 to 17 and 43 to 49: places, pinners, acts, days, the log, acts undone, the image. */
public final class ActsTest {
    public static void main(String[] args) {
        places();
        pinning();
        changing();
        going();
        pulling();
        handing();
        fellingAndHeight();
        rustingDays();
        windyDays();
        wrongDays();
        logRows();
        undoing();
        imaging();
        counting();
        Check.finish("ActsTest");
    }

    private static void places() {
        PinnedSky sky = Check.sky("pin 4 rust 55;tree 4 4;ground 6 2;need 6 6;need 7 9;bare 5;pinner 3 pace 2 brass 1",
            "strain 2 if gap>9");
        int[] four = {0, 0, 4, 1, 1, 55, 6, 0, 0, 1};
        for (int what = 0; what < four.length; what++) {
            Check.due("place 4 " + what, sky.place(4, what), four[what]);
        }
        Check.due("low without a pin that holds", sky.low(), Check.set(6, 7));
        sky.fell(4);
        Check.due("holds without the tree", sky.place(4, 7), 1);
        Check.due("sky at it", sky.place(4, 8), 20);
        Check.due("sky two beside", sky.place(6, 8), 14);
        Check.due("6 stands", sky.place(6, 9), 1);
        Check.due("sky far away is not below 0", sky.place(15, 8), 0);
        for (int place : new int[] {-1, 16, Integer.MAX_VALUE, Integer.MIN_VALUE}) {
            Check.throwsDue("place " + place, IndexOutOfBoundsException.class, () -> sky.place(place, 99));
            Check.throwsDue("rusts " + place, IndexOutOfBoundsException.class, () -> sky.rusts(place));
            Check.throwsDue("pull " + place, IndexOutOfBoundsException.class, () -> sky.pull(place));
            Check.throwsDue("fell " + place, IndexOutOfBoundsException.class, () -> sky.fell(place));
            Check.throwsDue("led " + place, IndexOutOfBoundsException.class, () -> sky.led(place, true));
            Check.throwsDue("go to " + place, IndexOutOfBoundsException.class, () -> sky.go(0, place));
        }
        for (int pinner : new int[] {-1, 1, 5, Integer.MAX_VALUE, Integer.MIN_VALUE}) {
            Check.throwsDue("pinner " + pinner, IndexOutOfBoundsException.class, () -> sky.pinner(pinner, 99));
            Check.throwsDue("pin " + pinner, IndexOutOfBoundsException.class, () -> sky.pin(pinner));
            Check.throwsDue("change " + pinner, IndexOutOfBoundsException.class, () -> sky.change(pinner));
            Check.throwsDue("go " + pinner, IndexOutOfBoundsException.class, () -> sky.go(pinner, 3));
            Check.throwsDue("hand " + pinner, IndexOutOfBoundsException.class, () -> sky.hand(pinner, 0));
        }
        for (int what : new int[] {-1, 10, Integer.MIN_VALUE}) {
            Check.throwsDue("place what " + what, NoSuchElementException.class, () -> sky.place(0, what));
            Check.throwsDue("pinner what " + what, NoSuchElementException.class, () -> sky.pinner(0, what));
        }
        Check.throwsDue("pinner what 3", NoSuchElementException.class, () -> sky.pinner(0, 3));
        Check.due("rusts by 0 with a law", sky.rusts(4), 0);
        Check.due("rusts by 1 without", Check.sky("pin 4").rusts(4), 1);
    }

    private static void pinning() {
        PinnedSky sky = Check.sky("pinner 3 pace 9 brass 1;pinner 5 pace 1 brass 2;bare 5;pinner 4 pace 1 brass 0");
        Check.due("pin", sky.pin(0), 3);
        Check.due("it is there", sky.count(7), Check.set(3));
        Check.due("brass", sky.pinner(0, 2), 0);
        Check.throwsDue("a pin there", IllegalStateException.class, () -> sky.pin(0));
        Check.throwsDue("no ladder", IllegalStateException.class, () -> sky.pin(1));
        Check.throwsDue("no brass", IllegalStateException.class, () -> sky.pin(2));
        sky.go(1, 4);
        Check.due("beside the bare place", sky.pin(1), 4);
        Check.due("acts", sky.count(11), 3);
    }

    private static void changing() {
        PinnedSky sky = Check.sky("pin 3 rust 44;pin 5 rust 1;bare 5;pinner 3 pace 9 brass 1;"
            + "pinner 5 pace 1 brass 2;pinner 4 pace 1 brass 1");
        Check.due("change", sky.change(0), 44);
        Check.due("its rust", sky.place(3, 5), 0);
        Check.due("brass", sky.pinner(0, 2), 0);
        Check.throwsDue("no brass", IllegalStateException.class, () -> sky.change(0));
        Check.throwsDue("no ladder", IllegalStateException.class, () -> sky.change(1));
        Check.throwsDue("no pin", IllegalStateException.class, () -> sky.change(2));
        Check.due("rows", sky.count(10), 1);
        int[] row = {0, 3, 1, 44};
        for (int what = 0; what < 4; what++) {
            Check.due("row " + what, sky.log(0, what), row[what]);
        }
    }

    private static void going() {
        PinnedSky sky = Check.sky("pinner 3 pace 4 brass 1");
        Check.throwsDue("too far", IllegalArgumentException.class, () -> sky.go(0, 8));
        Check.due("as far as it goes", sky.go(0, 7), 4);
        Check.due("back", sky.go(0, 3), 4);
        Check.due("no step", sky.go(0, 3), 0);
        Check.due("its place", sky.pinner(0, 0), 3);
        Check.due("acts, that of no step too", sky.count(11), 3);
    }

    private static void pulling() {
        PinnedSky sky = Check.sky("pin 3 rust 5;pin 4;stock 998;bare 3");
        Check.due("pull", sky.pull(3), 5);
        Check.due("stock", sky.count(6), 999);
        Check.throwsDue("no pin", IllegalStateException.class, () -> sky.pull(3));
        Check.due("pull another", sky.pull(4), 0);
        Check.due("stock at most", sky.count(6), 999);
        Check.due("pulled ones are not gone", sky.count(9), 0);
        Check.due("rust without a pin", sky.place(3, 5), 0);
        Check.due("one more in stock", pullOne("pin 3;stock 5").count(6), 6);
        Check.due("what", sky.log(1, 2), 2);
        Check.due("rust", sky.log(1, 3), 5);
    }

    private static PinnedSky pullOne(String text) {
        PinnedSky sky = Check.sky(text);
        sky.pull(3);
        return sky;
    }

    private static void handing() {
        PinnedSky sky = Check.sky("pinner 3 pace 4 brass 1;stock 40");
        Check.throwsDue("hand 0", IllegalArgumentException.class, () -> sky.hand(0, 0));
        Check.throwsDue("hand 31", IllegalArgumentException.class, () -> sky.hand(0, 31));
        Check.throwsDue("hand 30", IllegalStateException.class, () -> sky.hand(0, 30));
        Check.due("hand 29", sky.hand(0, 29), 30);
        Check.due("stock", sky.count(6), 11);
        Check.throwsDue("hand 1 more", IllegalStateException.class, () -> sky.hand(0, 1));
        PinnedSky poor = Check.sky("pinner 3 pace 4 brass 0;stock 2");
        Check.throwsDue("stock is less", IllegalStateException.class, () -> poor.hand(0, 3));
        Check.due("all of the stock", poor.hand(0, 2), 2);
        Check.due("brass of all", poor.count(8), 2);
    }

    private static void fellingAndHeight() {
        PinnedSky sky = Check.sky("tree 6 7");
        Check.due("fell", sky.fell(6), 7);
        Check.due("fell again", sky.fell(6), 0);
        Check.due("height 1", sky.height(1), 20);
        Check.due("height 40", sky.height(40), 1);
        Check.throwsDue("height 0", IllegalArgumentException.class, () -> sky.height(0));
        Check.throwsDue("height 41", IllegalArgumentException.class, () -> sky.height(41));
        Check.due("height stays", sky.count(4), 40);
        Check.due("acts", sky.count(11), 4);
    }

    private static void rustingDays() {
        PinnedSky sky = Check.sky("pin 1 rust 58;pin 2;pin 3 rust 50;tree 3 8", "rust 1;rust 4 if place>2");
        Check.due("a day", sky.days(1), 1);
        Check.due("3 is gone", sky.count(7), Check.set(1, 2));
        Check.due("the day of it", sky.log(0, 0), 0);
        Check.due("its rust", sky.log(0, 3), 55);
        Check.due("two pins", sky.days(1), 1);
        Check.due("60 is too much", sky.count(7), Check.set(2));
        Check.due("its day", sky.log(0, 0), 1);
        Check.due("day", sky.count(3), 2);
        Check.due("gone in all", sky.count(9), 2);
        Check.due("57 days more", sky.days(57), 0);
        Check.due("rust", sky.place(2, 5), 59);
        Check.due("one day more", sky.days(1), 1);
        PinnedSky held = Check.sky("pin 1 rust 98", "rust 30;hold");
        held.days(3);
        Check.due("rust at most", held.place(1, 5), 99);
        Check.due("it holds all the same", held.held(), Check.set(1));
        PinnedSky atOnce = Check.sky("pin 1 rust 59;pin 2 rust 57;pin 4 rust 1", "strain 3 if gap<2;strain 9 if gap>2");
        Check.due("all at once", atOnce.days(1), 2);
        Check.due("not the one whose gap is wider then", atOnce.count(7), Check.set(4));
        PinnedSky old = Check.sky("");
        for (int i = 0; i < 167; i++) {
            old.days(60);
        }
        Check.due("9999 days at most", old.count(3), 9999);
        PinnedSky dated = Check.sky("pin 1", "rust 1 if day>1;strain 30 if day>2;strain 30 if day>2");
        Check.due("days 0 to 2", dated.days(3), 0);
        Check.due("rust of day 2 alone", dated.place(1, 5), 1);
        Check.due("it holds no more on day 3", dated.held(), 0);
        Check.due("and is gone by it", dated.days(1), 1);
    }

    /** From SEED 1 the draws are 16838, 5758, 10113, 17515, 31051, 5627, .. */
    private static void windyDays() {
        PinnedSky sky = Check.sky("pin 14;pin 11;pin 1;gale 100");
        Check.due("gale: 5758 modulo 16", sky.days(1), 1);
        Check.due("14 is gone", sky.count(7), Check.set(1, 11));
        Check.due("gale: 31051 modulo 16", sky.days(1), 1);
        Check.due("11 is gone", sky.count(7), Check.set(1));
        Check.due("in the log", sky.log(0, 2), 3);
        Check.due("with its rust", sky.log(0, 3), 2);
        Check.due("draws 7419 modulo 16: none there", sky.days(1), 0);
        Check.due("38 is not below 38", Check.sky("pin 14;gale 38").days(1), 0);
        Check.due("38 is below 39", Check.sky("pin 14;gale 39").days(1), 1);
        PinnedSky moths = Check.sky("pin 1;pin 2;moths 59");
        Check.due("58 is below 59", moths.days(1), 0);
        Check.due("rust of 10113 modulo 16", moths.place(1, 5), 21);
        Check.due("rust of another", moths.place(2, 5), 1);
        PinnedSky none = Check.sky("pin 1;moths 58");
        none.days(1);
        Check.due("58 is not below 58", none.place(1, 5), 1);
        PinnedSky eaten = Check.sky("pin 1 rust 85;moths 100", "hold");
        eaten.days(1);
        Check.due("rust at most", eaten.place(1, 5), 99);
        PinnedSky broken = Check.sky("pin 1 rust 39;moths 100");
        Check.due("moths ahead of holding", broken.days(1), 1);
        Check.due("rust then", broken.log(0, 3), 60);
        PinnedSky calm = Check.sky("pin 1");
        calm.days(1);
        Check.due("two draws a calm day", calm.seed(7), seedBehindTwoDraws());
        Check.due("seed was told", calm.seed(0), 7);
    }

    private static int seedBehindTwoDraws() {
        int seed = 1103515245 + 12345;
        return 1103515245 * seed + 12345;
    }

    private static void wrongDays() {
        PinnedSky sky = Check.sky("pin 1;gale 50");
        for (int n : new int[] {0, -1, 61, Integer.MAX_VALUE, Integer.MIN_VALUE}) {
            Check.throwsDue("days " + n, IllegalArgumentException.class, () -> sky.days(n));
        }
        Check.due("nothing happened", sky.count(3), 0);
        Check.due("no draw", sky.seed(1), 1);
        Check.due("no act", sky.count(11), 0);
        sky.days(60);
        Check.due("60 days", sky.count(3), 60);
    }

    private static void logRows() {
        PinnedSky sky = Check.sky("pin 9;pinner 2 pace 1 brass 30;stock 30");
        Check.due("pins of a text are none of it", sky.count(10), 0);
        Check.due("log without", sky.log(0, 0), -1);
        Check.throwsDue("log what 4", NoSuchElementException.class, () -> sky.log(0, 4));
        Check.throwsDue("log what -1", NoSuchElementException.class, () -> sky.log(-1, -1));
        for (int i = 0; i < 31; i++) {
            if (i == 30) {
                sky.hand(0, 5);
            }
            sky.pin(0);
            sky.days(1);
            sky.pull(2);
        }
        Check.due("60 rows at most", sky.count(10), 60);
        Check.due("the latest", sky.log(0, 0), 31);
        Check.due("what it was", sky.log(0, 2), 2);
        Check.due("its rust", sky.log(0, 3), 1);
        Check.due("the oldest", sky.log(59, 0), 1);
        Check.due("it was pinned", sky.log(59, 2), 0);
        Check.due("its place", sky.log(59, 1), 2);
        Check.due("no older one", sky.log(60, 0), -1);
        Check.due("none of -1", sky.log(-1, 0), -1);
        Check.due("none of the least", sky.log(Integer.MIN_VALUE, 0), -1);
        Check.due("led", sky.led(2, false), 60);
        Check.due("led, the day", sky.led(2, true), 31);
        Check.due("led elsewhere", sky.led(9, false), 0);
        Check.due("led elsewhere, no day", sky.led(9, true), -1);
        sky.pull(9);
        Check.due("led then", sky.led(9, false), 1);
        Check.due("led then, one less", sky.led(2, false), 59);
    }

    private static void undoing() {
        PinnedSky sky = Check.sky("pin 1 rust 58;pinner 2 pace 3 brass 2;stock 3;tree 4 4;gale 50");
        sky.pin(0);
        sky.go(0, 4);
        sky.fell(4);
        sky.hand(0, 3);
        sky.height(11);
        sky.pull(2);
        sky.seed(99);
        sky.days(20);
        Check.due("acts", sky.count(11), 7);
        Check.due("undo days", sky.undo(), true);
        Check.due("day", sky.count(3), 0);
        Check.due("seed ahead of the days", sky.seed(98), 99);
        Check.due("pins", sky.count(7), Check.set(1));
        Check.due("gone", sky.count(9), 0);
        Check.due("rows", sky.count(10), 2);
        sky.undo();
        Check.due("pulled pin", sky.count(7), Check.set(1, 2));
        Check.due("stock", sky.count(6), 0);
        Check.due("seed goes too", sky.seed(97), 1);
        sky.undo();
        Check.due("height", sky.count(4), 20);
        sky.undo();
        Check.due("handed", sky.pinner(0, 2), 1);
        Check.due("stock again", sky.count(6), 3);
        sky.undo();
        Check.due("tree", sky.place(4, 2), 4);
        sky.undo();
        Check.due("place", sky.pinner(0, 0), 2);
        Check.due("last undo", sky.undo(), true);
        Check.due("nothing pinned", sky.count(7), Check.set(1));
        Check.due("no row", sky.count(10), 0);
        Check.due("no more", sky.undo(), false);
        for (int i = 1; i <= 13; i++) {
            sky.height(i);
        }
        Check.due("12 remembered", sky.count(11), 12);
        for (int i = 0; i < 12; i++) {
            Check.due("undo " + i, sky.undo(), true);
        }
        Check.due("the 13th is not remembered", sky.undo(), false);
        Check.due("height behind it", sky.count(4), 1);
        Check.tape(sky, "pin");
        Check.throwsDue("a wrong text", IllegalArgumentException.class, () -> sky.sky());
        sky.height(5);
        sky.feed(1, 2, 3, 4, 5);
        sky.undo();
        Check.due("fault stays", sky.fault(), 3);
        Check.due("tape stays", sky.end(20), true);
        Check.throwsDue("a call that throws is no act", IllegalStateException.class, () -> sky.pull(9));
        Check.due("acts", sky.count(11), 0);
    }

    private static void imaging() {
        PinnedSky sky = Check.sky("pin 1;pinner 2 pace 3 brass 2;stock 3", "rust 2");
        sky.pin(0);
        sky.image();
        Check.due("acts behind an image", sky.count(11), 1);
        Check.tape(sky, "pin 5;height 3;tight 9;pinner 1 pace 1 brass 1;bare 0;need 1 1;ground 1 1;tree 1 1;gale 9");
        sky.sky();
        Check.tape(sky, "hold;hold");
        sky.law();
        sky.seed(4);
        sky.days(3);
        sky.feed(1, 2, 3, 4, 5);
        Check.due("back", sky.back(), true);
        int[] counts = {1, 1, 1, 0, 20, 3, 3, 6, 1, 0, 1, 0};
        for (int what = 0; what < counts.length; what++) {
            Check.due("count then " + what, sky.count(what), counts[what]);
        }
        Check.due("the law is back", sky.rusts(1), 2);
        Check.due("place 1", sky.place(1, 0) + sky.place(1, 1) + sky.place(1, 2), 0);
        Check.due("ladder", sky.place(0, 3), 1);
        Check.due("odds of no gale", sky.odds(1, 1), 0);
        Check.due("seed is back", sky.seed(1), 1);
        Check.due("the tape stays", sky.end(20), true);
        Check.due("undo behind going back", sky.undo(), false);
        sky.pull(1);
        Check.due("back again", sky.back(), true);
        Check.due("the image stays", sky.count(7), 6);
        PinnedSky logged = Check.sky("pin 3 rust 3;pin 4 rust 4");
        logged.pull(3);
        logged.image();
        logged.undo();
        logged.pull(4);
        logged.back();
        Check.due("the row of the image", logged.log(0, 1) * 100 + logged.log(0, 3), 303);
        PinnedSky lawless = Check.sky("pin 1");
        lawless.image();
        lawless.law();
        lawless.back();
        Check.due("no law then", lawless.count(2), -1);
        Check.due("rusts without", lawless.rusts(1), 1);
    }

    private static void counting() {
        PinnedSky sky = Check.sky("pin 3;pin 15;pinner 1 pace 1 brass 7;pinner 1 pace 1 brass 8;stock 9");
        Check.due("pins", sky.count(7), Check.set(3, 15));
        Check.due("brass of all", sky.count(8), 15);
        for (int what : new int[] {-1, 12, Integer.MAX_VALUE, Integer.MIN_VALUE}) {
            Check.due("count " + what, sky.count(what), -1);
        }
    }
}
