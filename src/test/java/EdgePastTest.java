import java.util.function.Consumer;

/** Edges of promises 46 to 49: acts undone, the image, going back, and what is counted. */
public final class EdgePastTest {
    public static void main(String[] args) {
        undoOfNone();
        undoOfEachAct();
        twelveAreRemembered();
        undoGoesRound();
        notUndoneYet();
        whatStaysBehindUndo();
        seedIsUndoneWithTheAct();
        refusedCallsAreNoActs();
        askingIsNoAct();
        textsForget();
        backForgets();
        noImage();
        imageOfAll();
        oneImage();
        imageStays();
        countsOfNothing();
        countsAtTheirMost();
        countOfAnotherWhat();
        Check.finish("EdgePastTest");
    }

    /** Something of all that acts change. */
    private static PinnedSky rich() {
        PinnedSky sky = Check.sky("pin 3 rust 44;pin 9;pinner 3 pace 9 brass 2;pinner 5 pace 2 brass 1;tree 5 6;stock 9;"
            + "gale 60;moths 60;need 4 17;bare 8", "strain 1 if gap<7;rust 2;hold if day>3 and place<4");
        sky.seed(9);
        return sky;
    }

    private static void undoOfNone() {
        Check.holds(46, "UNDONE: whether there was one.");
        Check.due("a new sky", new PinnedSky().undo(), false);
        PinnedSky sky = rich();
        Check.due("a told sky", sky.undo(), false);
        Check.due("all is as it was", State.toTheEnd(sky), State.toTheEnd(rich()));
    }

    private static void undone(String act, Consumer<PinnedSky> made) {
        PinnedSky sky = rich();
        made.accept(sky);
        Check.due("one act: " + act, sky.count(11), 1);
        Check.due("undone: " + act, sky.undo(), true);
        Check.due("no more: " + act, sky.undo(), false);
        Check.due("all is as ahead of " + act, State.toTheEnd(sky), State.toTheEnd(rich()));
    }

    private static void undoOfEachAct() {
        Check.holds(46, "all is as ahead of it");
        undone("pinning", sky -> sky.pin(1));
        undone("changing", sky -> sky.change(0));
        undone("going", sky -> sky.go(0, 12));
        undone("going no step", sky -> sky.go(0, 3));
        undone("pulling", sky -> sky.pull(3));
        undone("handing", sky -> sky.hand(1, 9));
        undone("felling", sky -> sky.fell(5));
        undone("felling no tree", sky -> sky.fell(6));
        undone("a height", sky -> sky.height(1));
        undone("the same height", sky -> sky.height(20));
        undone("a day", sky -> sky.days(1));
        Check.holds(46, "DAYS of one call are one");
        undone("60 days", sky -> sky.days(60));
    }

    private static void twelveAreRemembered() {
        Check.holds(46, "12 are remembered");
        PinnedSky twelve = new PinnedSky();
        for (int height = 1; height <= 12; height++) {
            twelve.height(height);
            Check.due("acts", twelve.count(11), height);
        }
        for (int left = 11; left >= 0; left--) {
            Check.due("undone", twelve.undo(), true);
            Check.due("acts left", twelve.count(11), left);
            Check.due("height", twelve.count(4), left == 0 ? 20 : left);
        }
        Check.due("no more", twelve.undo(), false);
        PinnedSky thirteen = new PinnedSky();
        for (int height = 1; height <= 13; height++) {
            thirteen.height(height);
        }
        Check.due("12 at most", thirteen.count(11), 12);
        for (int acts = 0; acts < 12; acts++) {
            thirteen.undo();
        }
        Check.due("the first one stays done", thirteen.count(4), 1);
        Check.due("no more", thirteen.undo(), false);
        Check.due("nor again", thirteen.undo(), false);
        Check.due("the height then", thirteen.count(4), 1);
    }

    private static void undoGoesRound() {
        Check.holds(46, "the latest ACT not undone yet (12 are remembered");
        PinnedSky sky = new PinnedSky();
        for (int height = 1; height <= 40; height++) {
            sky.height(height);
        }
        for (int acts = 1; acts <= 12; acts++) {
            sky.undo();
            Check.due("height behind " + acts + " undone", sky.count(4), 40 - acts);
        }
        Check.due("no more", sky.undo(), false);
        for (int height = 1; height <= 7; height++) {
            sky.height(height);
        }
        Check.due("seven new ones", sky.count(11), 7);
        for (int acts = 6; acts >= 0; acts--) {
            sky.undo();
            Check.due("height then", sky.count(4), acts == 0 ? 28 : acts);
        }
        Check.due("no more than seven", sky.undo(), false);
    }

    private static void notUndoneYet() {
        Check.holds(46, "UNDONE: the latest ACT not undone yet");
        PinnedSky sky = Check.sky("tree 1 1;tree 2 2;tree 3 3");
        sky.fell(1);
        sky.fell(2);
        sky.undo();
        sky.fell(3);
        Check.due("two acts", sky.count(11), 2);
        sky.undo();
        Check.due("3 is back", sky.place(3, 2), 3);
        Check.due("2 was back already", sky.place(2, 2), 2);
        Check.due("1 is not yet", sky.place(1, 2), 0);
        sky.undo();
        Check.due("1 is back", sky.place(1, 2), 1);
        Check.due("no more", sky.undo(), false);
    }

    private static void whatStaysBehindUndo() {
        Check.holds(46, "but for the TAPE, fault(), THE IMAGE");
        PinnedSky sky = rich();
        sky.fell(5);
        Check.tape(sky, "strain 31");
        Check.throwsDue("a wrong law", IllegalArgumentException.class, () -> sky.law());
        sky.image();
        Check.tape(sky, "stock 77");
        Check.due("undone", sky.undo(), true);
        Check.due("fault", sky.fault(), 7);
        Check.due("tree", sky.place(5, 2), 6);
        Check.due("bytes of the tape", State.bytes(sky), 8);
        Check.due("the text on it", sky.sky(), 2);
        Check.due("its stock", sky.count(6), 77);
        Check.due("the image", sky.back(), true);
        Check.due("its tree", sky.place(5, 2), 0);
        PinnedSky fed = rich();
        Check.tape(fed, "stock 77");
        fed.fell(5);
        fed.end(7);
        fed.undo();
        Check.due("the tape is not as ahead of the act", State.bytes(fed), 7);
    }

    private static void seedIsUndoneWithTheAct() {
        Check.holds(46, "all is as ahead of it");
        PinnedSky sky = rich();
        sky.days(5);
        sky.seed(1234);
        sky.undo();
        Check.due("the seed ahead of the days", sky.seed(10), 9);
        sky.fell(5);
        sky.seed(11);
        sky.undo();
        Check.due("the seed ahead of the felling", sky.seed(9), 10);
        Check.due("telling a seed is no act", sky.undo(), false);
    }

    private static void refusedCallsAreNoActs() {
        Check.holds(46, "a call that throws changes nothing but the TAPE, where it is used up");
        PinnedSky sky = rich();
        sky.fell(5);
        Check.throwsDue("pin", IllegalStateException.class, () -> sky.pin(0));
        Check.throwsDue("change", IllegalStateException.class, () -> sky.change(1));
        Check.throwsDue("go", IllegalArgumentException.class, () -> sky.go(1, 9));
        Check.throwsDue("pull", IllegalStateException.class, () -> sky.pull(0));
        Check.throwsDue("hand", IllegalStateException.class, () -> sky.hand(0, 10));
        Check.throwsDue("fell", IndexOutOfBoundsException.class, () -> sky.fell(16));
        Check.throwsDue("height", IllegalArgumentException.class, () -> sky.height(41));
        Check.throwsDue("days", IllegalArgumentException.class, () -> sky.days(61));
        Check.due("one act", sky.count(11), 1);
        Check.due("the felling is undone", sky.undo(), true);
        Check.due("tree", sky.place(5, 2), 6);
    }

    private static void askingIsNoAct() {
        Check.holds(46, "ACTS: a PINNER pins at its PLACE");
        PinnedSky sky = rich();
        sky.fell(5);
        sky.seen(true);
        sky.climb();
        Check.tape(sky, 3, 5);
        sky.goes(-1);
        sky.feed(1, 2, 3, 4, 5);
        sky.end(0);
        sky.image();
        sky.seed(3);
        sky.trial(60, true);
        sky.span(60, true);
        sky.duke();
        sky.fewest(-1);
        Check.due("one act yet", sky.count(11), 1);
        Check.due("the felling", sky.undo(), true);
        Check.due("tree", sky.place(5, 2), 6);
    }

    private static void textsForget() {
        Check.holds(46, "A text, going back: none are remembered.");
        PinnedSky sky = rich();
        sky.fell(5);
        Check.tape(sky, "x");
        Check.throwsDue("a wrong text", IllegalArgumentException.class, () -> sky.sky());
        Check.tape(sky, "x");
        Check.throwsDue("a wrong law", IllegalArgumentException.class, () -> sky.law());
        Check.due("remembered yet", sky.count(11), 1);
        Check.law(sky, "hold");
        Check.due("behind a law", sky.count(11), 0);
        Check.due("none to undo", sky.undo(), false);
        Check.due("no tree", sky.place(5, 2), 0);
        sky.fell(5);
        sky.law();
        Check.due("behind an empty law", sky.count(11), 0);
        sky.fell(5);
        Check.more(sky, "tree 5 6");
        Check.due("behind a text of the sky", sky.count(11), 0);
        sky.fell(5);
        sky.sky();
        Check.due("behind an empty one", sky.count(11), 0);
        Check.due("none to undo", sky.undo(), false);
        for (int texts = sky.count(1); texts < 12; texts++) {
            sky.sky();
        }
        sky.fell(6);
        Check.throwsDue("text 13", UnsupportedOperationException.class, () -> sky.sky());
        Check.due("a text too many changes nothing", sky.count(11), 1);
    }

    private static void backForgets() {
        Check.holds(46, "A text, going back: none are remembered.");
        PinnedSky sky = rich();
        sky.fell(5);
        sky.image();
        Check.due("keeping an image is no going back", sky.count(11), 1);
        sky.height(7);
        Check.due("two acts", sky.count(11), 2);
        Check.due("back", sky.back(), true);
        Check.due("none remembered, those of the image neither", sky.count(11), 0);
        Check.due("none to undo", sky.undo(), false);
    }

    private static void noImage() {
        Check.holds(48, "false, and nothing happens, if none was kept");
        PinnedSky sky = rich();
        sky.fell(5);
        Check.tape(sky, "stock 77");
        Check.due("back", sky.back(), false);
        Check.due("and again", sky.back(), false);
        PinnedSky twin = rich();
        twin.fell(5);
        Check.tape(twin, "stock 77");
        Check.due("all is as it was, acts too", State.toTheEnd(sky), State.toTheEnd(twin));
        Check.due("a new sky", new PinnedSky().back(), false);
    }

    private static void imageOfAll() {
        Check.holds(47, "THE IMAGE (one) of all may be kept, and gone back to");
        PinnedSky sky = rich();
        sky.pull(3);
        sky.image();
        Check.more(sky, "pin 0;pin 1 rust 7;height 3;tight 9;pinner 1 pace 1 brass 1;bare 0;need 1 1;ground 1 1;tree 1 1;"
            + "gale 9;moths 9;stock 8");
        Check.law(sky, "hold;hold");
        sky.seed(4);
        sky.pull(0);
        sky.days(7);
        Check.due("back", sky.back(), true);
        PinnedSky twin = rich();
        twin.pull(3);
        twin.image();
        twin.back();
        Check.due("all is as it was kept", State.toTheEnd(sky), State.toTheEnd(twin));
        PinnedSky lawful = Check.sky("pin 3;pin 9 rust 70", "strain 4;rust 2;hold if place>8");
        lawful.image();
        Check.law(lawful, "rust 9");
        lawful.back();
        Check.due("the law's lines", lawful.count(2), 3);
        Check.due("strain by it", lawful.place(3, 6), 4);
        Check.due("rust by it", lawful.rusts(3), 2);
        Check.due("held by it", lawful.held(), Check.set(3, 9));
        PinnedSky blank = new PinnedSky();
        blank.image();
        Check.more(blank, "pin 3;stock 9");
        Check.law(blank, "hold");
        blank.days(9);
        blank.back();
        Check.due("an image of nothing: no text", blank.count(1), 0);
        Check.due("no law", blank.count(2), -1);
        Check.due("no pin", blank.count(7), 0);
        Check.due("12 texts can be told again", twelveTexts(blank), 12);
    }

    private static int twelveTexts(PinnedSky sky) {
        int texts = 0;
        for (int i = 0; i < 12; i++) {
            texts = sky.sky();
        }
        return texts;
    }

    private static void oneImage() {
        Check.holds(47, "THE IMAGE is kept.");
        PinnedSky sky = Check.sky("tree 5 6");
        sky.image();
        sky.height(7);
        sky.image();
        sky.height(8);
        Check.due("back", sky.back(), true);
        Check.due("to the latest image", sky.count(4), 7);
        Check.due("back again", sky.back(), true);
        Check.due("to the same one", sky.count(4), 7);
    }

    private static void imageStays() {
        Check.holds(48, "but for the TAPE, fault() and THE IMAGE itself");
        PinnedSky sky = Check.sky("tree 5 6");
        sky.image();
        Check.tape(sky, "strain 31");
        Check.throwsDue("a wrong law", IllegalArgumentException.class, () -> sky.law());
        sky.fell(5);
        Check.tape(sky, "stock 77");
        Check.due("back", sky.back(), true);
        Check.due("fault", sky.fault(), 7);
        Check.due("tape", State.bytes(sky), 8);
        Check.due("the text on it", sky.sky(), 2);
        Check.due("its stock", sky.count(6), 77);
        Check.due("tree", sky.place(5, 2), 6);
        Check.due("back behind a text", sky.back(), true);
        Check.due("stock then", sky.count(6), 0);
        Check.holds(48, "One goes back to THE IMAGE: true");
        for (int times = 0; times < 3; times++) {
            sky.fell(5);
            Check.due("back, time " + times, sky.back(), true);
            Check.due("tree, time " + times, sky.place(5, 2), 6);
        }
        sky.fell(5);
        sky.undo();
        Check.due("back behind undoing", sky.back(), true);
        Check.due("what an image kept is not changed by acts behind it", sky.place(5, 2), 6);
    }

    private static void countsOfNothing() {
        Check.holds(49, "0 PINNERS, 1 texts of THE SKY, 2 LINES of THE LAW (NONE without one), 3 DAY, 4 HEIGHT, 5 TIGHT, 6 STOCK, "
            + "7 PINS, as bits, 8 BRASS of all together, 9 PINS gone in all (not pulled ones), 10 rows of THE LOG, 11 acts "
            + "that can be UNDONE.");
        int[] counts = {0, 0, -1, 0, 20, 3, 0, 0, 0, 0, 0, 0};
        for (int what = 0; what < 12; what++) {
            Check.due("count " + what, new PinnedSky().count(what), counts[what]);
        }
        PinnedSky sky = Check.sky("pinner 1 pace 2 brass 3;pinner 1 pace 2 brass 4;height 5;tight 6;stock 7;pin 3;"
            + "pin 4 rust 59;pin 8", "rust 1;strain 2");
        sky.days(1);
        sky.pull(3);
        sky.pin(0);
        int[] then = {2, 1, 2, 1, 5, 6, 8, Check.set(1, 8), 6, 1, 3, 3};
        for (int what = 0; what < 12; what++) {
            Check.due("count " + what, sky.count(what), then[what]);
        }
        Check.law(sky, "");
        Check.due("a law without a line", sky.count(2), 0);
    }

    private static void countsAtTheirMost() {
        Check.holds(49, "8 BRASS of all together");
        PinnedSky sky = Check.sky(Check.each("pinner # pace 9 brass 30", 0, 4));
        Check.due("five with 30", sky.count(8), 150);
        Check.due("five", sky.count(0), 5);
        Check.holds(49, "7 PINS, as bits");
        Check.due("all pins", Check.everywhere("pin #").count(7), 65535);
        Check.due("pins that do not hold, too", Check.everywhere("pin # rust 60").count(7), 65535);
        Check.holds(49, "9 PINS gone in all (not pulled ones)");
        PinnedSky gone = new PinnedSky();
        for (int texts = 0; texts < 12; texts++) {
            Check.more(gone, Check.each("pin # rust 59", 0, 5));
            gone.days(1);
        }
        Check.due("12 times 6", gone.count(9), 72);
        Check.due("more than the log has rows", gone.count(10), 60);
        gone.undo();
        Check.due("one day undone", gone.count(9), 66);
        PinnedSky pulled = Check.everywhere("pin #");
        pulled.pull(3);
        Check.due("pulled ones are not gone", pulled.count(9), 0);
    }

    private static void countOfAnotherWhat() {
        Check.holds(49, "NONE for another what.");
        for (int what : new int[] {Integer.MIN_VALUE, -12, -1, 12, 13, 16, 256, Integer.MAX_VALUE}) {
            Check.due("count " + what, rich().count(what), -1);
            Check.due("count " + what + " of a new sky", new PinnedSky().count(what), -1);
        }
    }
}
