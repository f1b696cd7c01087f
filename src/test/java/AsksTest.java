/** Promises 18 to 42: what is asked of a sky, with answers worked out by hand. */
public final class AsksTest {
    public static void main(String[] args) {
        lowAndHeld();
        gives();
        weakest();
        keyAndSpare();
        fewest();
        first();
        round();
        goes();
        before();
        seen();
        climb();
        duke();
        payAndSeasonAndBest();
        lasts();
        starsAndLongest();
        ahead();
        odds();
        needsAndTrialAndSpan();
        changesAreSeen();
        nothingStays();
        Check.finish("AsksTest");
    }

    private static void lowAndHeld() {
        PinnedSky sky = Check.sky("pin 0;pin 15 rust 60;need 5 5;need 6 3;ground 6 0;need 1 17;need 2 15;ground 7 1");
        Check.due("held", sky.held(), Check.set(0));
        // it hangs 20, 17, 14, 11, 8, 5, 2, 0, ..
        Check.due("low", sky.low(), Check.set(2, 6, 7));
        sky.height(21);
        Check.due("low, higher", sky.low(), Check.set(7));
        Check.due("the tree counts twice", Check.sky("pin 3;tree 3 4;need 3 12").low(), 0);
        Check.due("a bit more", Check.sky("pin 3;tree 3 4;need 3 13").low(), Check.set(3));
        Check.due("the greatest of all", Check.sky("pin 3;pin 9;need 7 14;tight 3").low(), 0);
        Check.due("a tight of 0", Check.sky("pin 0;need 15 20;tight 0").low(), 0);
    }

    private static void gives() {
        PinnedSky sky = Check.sky("pin 3 rust 20;pin 4 rust 30;pin 5 rust 30");
        Check.due("gives", sky.gives(false), 30);
        Check.due("which", sky.gives(true), Check.set(4, 5));
        Check.due("on the 60th", Check.sky("pin 3").gives(false), 60);
        PinnedSky late = Check.sky("pin 3", "rust 1 if day>0");
        Check.due("not in 60", late.gives(false), -1);
        Check.due("none in 60", late.gives(true), 0);
        PinnedSky weak = Check.sky("pin 3 rust 99", "rust 0");
        Check.due("what does not hold goes by the first", weak.gives(false), 1);
        Check.due("no winds ahead", Check.sky("pin 14;gale 100;moths 100").gives(false), 60);
    }

    private static void weakest() {
        PinnedSky sky = Check.sky("pin 3 rust 20;pin 4 rust 18;tree 4 2;pin 9 rust 5;tree 8 9");
        Check.due("the least of several", sky.weakest(), 3);
        Check.tape(sky, "strain 20 if place>8");
        sky.law();
        Check.due("by the law", sky.weakest(), 9);
        Check.due("at rust 0", Check.sky("pin 7").weakest(), 7);
        Check.due("none", Check.sky("tree 8 9").weakest(), -1);
    }

    private static void keyAndSpare() {
        PinnedSky sky = Check.sky("pin 2;pin 4;pin 12;need 2 18;need 12 20;need 14 14;need 3 17");
        // without 2 its place hangs 14; without 4 place 3 hangs 17 by 2; without 12 its places hang low
        Check.due("key", sky.key(), Check.set(2, 12));
        Check.due("spare", sky.spare(), Check.set(4));
        PinnedSky swap = Check.sky("pin 2;pin 4 rust 52;need 2 18;need 4 18", "strain 8 if gap<3");
        Check.due("held by the gap", swap.held(), Check.set(2));
        // 2 gone: 4 holds, so as many stand as now, but not the same
        Check.due("key by numbers", swap.key(), 0);
        Check.due("spare by places", swap.spare(), Check.set(4));
        Check.due("key at both ends", Check.sky("pin 0;pin 15;need 0 20;need 15 20").key(), Check.set(0, 15));
        Check.due("spare at both ends", Check.sky("pin 0;pin 15").spare(), Check.set(0, 15));
        Check.due("no key", new PinnedSky().key(), 0);
        Check.due("no spare", new PinnedSky().spare(), 0);
    }

    private static void fewest() {
        PinnedSky sky = Check.sky("need 2 20;need 9 20;need 12 17;pin 0");
        Check.due("none asked", sky.fewest(0), 0);
        Check.due("one stands", sky.fewest(Check.set(0, 5)), 0);
        Check.due("bits of no place", sky.fewest(-65536), 0);
        Check.due("at its place", sky.fewest(Check.set(2)), Check.set(2));
        Check.due("the least that does", sky.fewest(Check.set(12)), Check.set(11));
        Check.due("three", sky.fewest(-1), Check.set(2, 9, 11));
        PinnedSky bare = Check.sky("need 12 17;bare 11;bare 12;need 2 20;bare 2");
        Check.due("where there are ladders", bare.fewest(Check.set(12)), Check.set(13));
        Check.due("it cannot be", bare.fewest(Check.set(2)), -1);
        PinnedSky many = Check.sky("need 1 20;need 3 20;need 5 20;need 7 20;need 9 20");
        Check.due("four", many.fewest(Check.set(1, 3, 5, 7)), Check.set(1, 3, 5, 7));
        Check.due("five are too many", many.fewest(Check.set(1, 3, 5, 7, 9)), -1);
        PinnedSky close = Check.sky("need 4 17;pin 6 rust 40;need 6 20", "strain 20 if gap<3");
        // a pin at 4 or 5 would let the old one go
        Check.due("old ones hold with them", close.fewest(Check.set(4, 6)), Check.set(3));
        PinnedSky pinned = Check.sky("need 4 20;pin 4 rust 60");
        Check.due("no pin where one is", pinned.fewest(Check.set(4)), -1);
        PinnedSky none = Check.sky("need 4 20;pin 4 rust 40", "strain 20 if gap>15");
        Check.due("a pin that makes another hold", none.fewest(Check.set(4)), Check.set(0));
    }

    private static void first() {
        PinnedSky sky = Check.sky("need 5 18;need 7 18;need 12 20;tight 2");
        Check.due("between two", sky.first(), 6);
        Check.due("all alike", new PinnedSky().first(), 0);
        StringBuilder bare = new StringBuilder("bare 0");
        for (int place = 1; place < 14; place++) {
            bare.append(";bare ").append(place);
        }
        PinnedSky few = Check.sky(bare.toString());
        Check.due("the first ladder", few.first(), 14);
        Check.tape(few, "bare 14;pin 15");
        few.sky();
        Check.due("none", few.first(), -1);
        PinnedSky worse = Check.sky("pin 8 rust 40;need 8 20;bare 0;bare 1", "strain 20 if gap<6");
        Check.due("the least that lets none go", worse.first(), 2);
        PinnedSky all = Check.sky("pin 8 rust 40;need 8 20", "strain 20 if gap<9");
        Check.due("the least, though one goes", all.first(), 0);
    }

    private static void round() {
        PinnedSky sky = Check.sky("pinner 6 pace 1 brass 0;pinner 0 pace 1 brass 0");
        Check.due("none", sky.round(0, 0, false), 0);
        Check.due("none, end", sky.round(0, 0, true), 6);
        Check.due("its place", sky.round(0, Check.set(6), false), 0);
        Check.due("its place, end", sky.round(0, Check.set(6), true), 6);
        Check.due("alike", sky.round(0, Check.set(4, 8), false), 6);
        Check.due("alike, the lesser", sky.round(0, Check.set(4, 8), true), 4);
        Check.due("down first", sky.round(0, Check.set(5, 9, 8), false), 5);
        Check.due("down first, end", sky.round(0, Check.set(5, 9, 8), true), 9);
        Check.due("up first", sky.round(0, Check.set(2, 7), false), 6);
        Check.due("up first, end", sky.round(0, Check.set(2, 7), true), 2);
        Check.due("up alone, end", sky.round(0, Check.set(7, 9), true), 9);
        Check.due("down alone, end", sky.round(0, Check.set(1, 5), true), 1);
        Check.due("all", sky.round(1, -1, false), 15);
        Check.due("all, end", sky.round(1, -1, true), 15);
        Check.due("bits of no place", sky.round(0, 1 << 16 | 1 << 31, true), 6);
        Check.throwsDue("pinner 2", IndexOutOfBoundsException.class, () -> sky.round(2, 1, true));
        Check.throwsDue("pinner -1", IndexOutOfBoundsException.class, () -> sky.round(-1, 1, true));
    }

    private static int goesTo(PinnedSky sky, int pinner, int... places) {
        Check.tape(sky, places);
        return sky.goes(pinner);
    }

    private static void goes() {
        PinnedSky sky = Check.sky("pinner 0 pace 2 brass 0;pinner 8 pace 3 brass 0;pinner 15 pace 9 brass 0");
        // 0 to 3 in 2 days, 8 to 14 in 2, 15 to 8 in 1
        Check.due("days", goesTo(sky, -1, 14, 8, 3), 2);
        Check.due("pinner 0", goesTo(sky, 0, 14, 8, 3), 2);
        Check.due("pinner 1, the least that can be", goesTo(sky, 1, 14, 8, 3), 0);
        Check.due("pinner 2", goesTo(sky, 2, 14, 8, 3), 1);
        Check.due("alike: the first way", goesTo(sky, 0, 4, 4, 4), 0);
        Check.due("alike: days", goesTo(sky, -1, 4, 4, 4), 2);
        Check.due("no day", goesTo(sky, -1, 15, 0, 8), 0);
        Check.throwsDue("pinner 3", IndexOutOfBoundsException.class, () -> goesTo(sky, 3, 99));
        Check.throwsDue("pinner -2", IndexOutOfBoundsException.class, () -> goesTo(sky, -2, 1, 2, 3));
        Check.due("the tape is used up then", sky.end(1), false);
        Check.throwsDue("too few", IllegalArgumentException.class, () -> goesTo(sky, -1, 1, 2));
        Check.throwsDue("too many", IllegalArgumentException.class, () -> goesTo(sky, -1, 1, 2, 3, 4));
        Check.throwsDue("no place", IllegalArgumentException.class, () -> goesTo(sky, 0, 1, 16, 3));
        Check.throwsDue("no place, 255", IllegalArgumentException.class, () -> goesTo(sky, 0, 1, 255, 3));
        Check.due("the tape is used up again", sky.end(1), false);
        Check.due("no pinner", goesTo(new PinnedSky(), -1), 0);
        Check.throwsDue("no pinner 0", IndexOutOfBoundsException.class, () -> goesTo(new PinnedSky(), 0));
    }

    private static void before() {
        PinnedSky sky = Check.sky("pinner 1 pace 2 brass 0;pinner 14 pace 1 brass 0");
        Check.due("in no day", sky.before(0), Check.set(1, 14));
        Check.due("in a day", sky.before(1), Check.set(0, 1, 2, 3, 13, 14, 15));
        Check.due("in 20", sky.before(20), 65535);
        Check.due("nobody", new PinnedSky().before(20), 0);
        Check.throwsDue("21", IllegalArgumentException.class, () -> sky.before(21));
        Check.throwsDue("-1", IllegalArgumentException.class, () -> sky.before(-1));
    }

    private static int seenBy(PinnedSky sky, boolean sure, int... told) {
        Check.tape(sky, told);
        return sky.seen(sure);
    }

    private static void seen() {
        PinnedSky sky = Check.sky("pin 2;pin 5;pin 14");
        Check.due("none told", seenBy(sky, false), 7);
        Check.due("none told, sure", seenBy(sky, true), 0);
        // at 5 it hangs 20 with its pin, 11 by 2 alone, 0 by 14 alone
        Check.due("its pin is there", seenBy(sky, false, 5, 20), 4);
        Check.due("by 2", seenBy(sky, false, 5, 11), 2);
        Check.due("by 2, sure", seenBy(sky, true, 5, 11), Check.set(5));
        Check.due("by 14 alone", seenBy(sky, true, 5, 0), Check.set(2, 5));
        Check.due("by two places", seenBy(sky, true, 5, 11, 14, 0), Check.set(5, 14));
        Check.due("none fits", seenBy(sky, false, 5, 12), 0);
        Check.due("none fits, sure", seenBy(sky, true, 5, 12), 0);
        Check.due("told twice", seenBy(sky, false, 5, 11, 5, 20), 0);
        Check.due("told twice alike", seenBy(sky, false, 5, 11, 5, 11), 2);
        PinnedSky gap = Check.sky("pin 2 rust 50;pin 5", "strain 10 if gap<4");
        Check.due("what holds is asked with them gone", seenBy(gap, true, 2, 20), Check.set(5));
        int[] forty = new int[40];
        for (int i = 1; i < 40; i += 2) {
            forty[i] = 14;
        }
        Check.due("40 bytes", seenBy(sky, false, forty), 4);
        Check.throwsDue("42 bytes", IllegalArgumentException.class, () -> seenBy(sky, true, new int[42]));
        Check.throwsDue("odd", IllegalArgumentException.class, () -> seenBy(sky, true, 1, 2, 3));
        Check.throwsDue("no place", IllegalArgumentException.class, () -> seenBy(sky, true, 16, 2));
        Check.due("used up", sky.end(1), false);
        Check.due("no pin", seenBy(new PinnedSky(), false), 1);
    }

    private static int climbBy(PinnedSky sky, int... told) {
        Check.tape(sky, told);
        return sky.climb();
    }

    private static void climb() {
        PinnedSky sky = Check.sky("pin 2;pin 5;pin 14");
        // none, 2, 14, 2 and 14: at 0 it hangs 14, 5, 14, 5; from 2 on 20, 11, ..; at 8 and 9 the same for all
        Check.due("the least that parts them best", climbBy(sky, 5, 20), 0);
        PinnedSky bare = Check.sky("pin 2;pin 5;pin 14;bare 0;bare 1;bare 2");
        Check.due("with a ladder", climbBy(bare, 5, 20), 3);
        // of none, 2, 3 and both gone, 40 is seen at 2 by two, at 3 by two; at 1 it hangs 37, 34, 37, 0
        PinnedSky high = Check.sky("pin 2;pin 3;height 40;tight 3;bare 0;bare 1");
        Check.due("at the greatest height", climbBy(high), 2);
        PinnedSky same = Check.sky("pin 2;pin 9;height 40;tight 0;bare 0");
        Check.due("all at 40 but one", climbBy(same), 1);
        Check.due("one set alone", climbBy(sky, 5, 11, 14, 0), -1);
        Check.due("no set", climbBy(sky, 5, 12), -1);
        Check.due("two sets", climbBy(Check.sky("pin 4;bare 0")), 1);
        StringBuilder text = new StringBuilder("bare 0");
        for (int place = 1; place < 14; place++) {
            text.append(";bare ").append(place);
        }
        PinnedSky none = Check.sky(text.toString());
        Check.tape(none, "bare 14;pin 3;pin 4");
        none.sky();
        Check.due("the only ladder", climbBy(none), 15);
        Check.tape(none, "bare 15");
        none.sky();
        Check.due("no ladder", climbBy(none), -1);
        Check.throwsDue("odd", IllegalArgumentException.class, () -> climbBy(sky, 1));
        Check.throwsDue("no place", IllegalArgumentException.class, () -> climbBy(sky, 99, 2));
        Check.throwsDue("42 bytes", IllegalArgumentException.class, () -> climbBy(sky, new int[42]));
        Check.due("used up", sky.end(1), false);
    }

    private static void duke() {
        Check.due("no pins, all alike", new PinnedSky().duke(), 17);
        // only 3 needs: without its pin no place that is free now is near enough
        PinnedSky sky = Check.sky("pin 3;need 3 18");
        Check.due("he pulls it, the guild is helpless", sky.duke(), 16);
        // now a pin beside would do: the guild sets it, and he may pull or not
        PinnedSky near = Check.sky("pin 3;need 3 17");
        Check.due("two neighbours, pulled or not", near.duke(), 4);
        PinnedSky two = Check.sky("pin 3;pin 9;need 3 20;need 9 20");
        Check.due("either of both, any of 15", two.duke(), 30);
    }

    private static void payAndSeasonAndBest() {
        PinnedSky sky = Check.sky("pin 4;need 4 15;need 5 15;need 8 9");
        // it hangs 20, 17, .. 8 at 8
        Check.due("pay 0", sky.pay(0), 0);
        Check.due("pay 2", sky.pay(2), 0);
        Check.due("pay 3", sky.pay(3), 1);
        Check.due("pay 6", sky.pay(6), 2);
        Check.due("pay 19", sky.pay(19), 2);
        Check.throwsDue("pay 20", IllegalArgumentException.class, () -> sky.pay(20));
        Check.throwsDue("pay -1", IllegalArgumentException.class, () -> sky.pay(-1));
        Check.due("season", sky.season(), 0);
        Check.due("best", sky.best(), 21);
        Check.due("best of none that would", Check.sky("need 3 1").best(), 1);
        Check.due("best of 40", Check.sky("pin 0;need 15 20;ground 15 5;tight 1").best(), 40);
        Check.due("best but for what never stands", Check.sky("pin 0;need 15 20;tight 9;need 0 7").best(), 7);
        // all heights fall with more tight, so the least is always as good
        Check.due("season of all alike", Check.sky("pin 0").season(), 0);
        PinnedSky low = Check.sky("pin 4;need 4 15");
        low.height(1);
        Check.due("pay of height 1", low.pay(0), 0);
        Check.throwsDue("pay 1 of height 1", IllegalArgumentException.class, () -> low.pay(1));
    }

    private static void lasts() {
        PinnedSky sky = Check.sky("pin 4 rust 50;pin 5;need 4 17");
        Check.due("the other one holds it", sky.lasts(), 60);
        Check.tape(sky, "need 4 18");
        sky.sky();
        Check.due("until it goes", sky.lasts(), 10);
        Check.due("none", Check.sky("pin 4").lasts(), -1);
        Check.due("what does not stand now does not count", Check.sky("need 4 18").lasts(), -1);
        PinnedSky dated = Check.sky("pin 4;need 4 1", "strain 30 if day>6;strain 30 if day>6;rust 0");
        Check.due("by the day it holds no more", dated.lasts(), 7);
        Check.due("and is gone the day behind", dated.gives(false), 8);
    }

    private static void starsAndLongest() {
        PinnedSky sky = Check.sky("pin 0;pin 4 rust 60;pin 5;pin 15");
        Check.due("stars", sky.stars(0, 15), 3);
        Check.due("both ends", sky.stars(5, 15), 2);
        Check.due("between", sky.stars(6, 14), 0);
        Check.due("one place", sky.stars(0, 0), 1);
        Check.due("that does not hold", sky.stars(4, 4), 0);
        Check.throwsDue("above", IllegalArgumentException.class, () -> sky.stars(5, 4));
        Check.throwsDue("no place", IndexOutOfBoundsException.class, () -> sky.stars(16, 4));
        Check.throwsDue("no place to", IndexOutOfBoundsException.class, () -> sky.stars(5, -1));
        Check.due("longest", sky.longest(), 9);
        PinnedSky full = Check.sky("pin 0;pin 1;pin 2;pin 3;pin 4;pin 5;pin 6;pin 7;pin 8;pin 9;pin 10;pin 11");
        Check.tape(full, "pin 12;pin 13;pin 14;pin 15");
        full.sky();
        Check.due("no place without one", full.longest(), 0);
        Check.due("all places", full.stars(0, 15), 16);
        Check.due("sets of 16 pins", seenBy(full, false), 137);
        Check.due("climb by 16 pins", climbBy(full), 0);
        Check.due("no place for a new one", full.first(), -1);
        Check.due("all are held", full.held(), 65535);
        Check.due("at the end", Check.sky("pin 3").longest(), 12);
        Check.due("at the begin", Check.sky("pin 14").longest(), 14);
    }

    private static void ahead() {
        PinnedSky sky = Check.sky("pin 4 rust 50;pin 5;gale 100;moths 100");
        Check.due("now", sky.ahead(4, 0, false), 20);
        Check.due("rust now", sky.ahead(4, 0, true), 50);
        Check.due("rust in 9", sky.ahead(4, 9, true), 59);
        Check.due("rust in 10", sky.ahead(4, 10, true), 0);
        Check.due("sky in 10", sky.ahead(4, 10, false), 17);
        Check.due("sky in 60", sky.ahead(4, 60, false), 0);
        Check.due("no pin", sky.ahead(9, 3, true), 0);
        Check.throwsDue("61", IllegalArgumentException.class, () -> sky.ahead(4, 61, true));
        Check.throwsDue("-1", IllegalArgumentException.class, () -> sky.ahead(4, -1, true));
        Check.throwsDue("no place", IndexOutOfBoundsException.class, () -> sky.ahead(16, 61, true));
    }

    private static void odds() {
        PinnedSky sky = Check.sky("gale 25");
        Check.due("one of one", sky.odds(1, 1), 2500);
        Check.due("one of two", sky.odds(2, 1), 4375);
        Check.due("two of three", sky.odds(3, 2), 1562);
        Check.due("six of six", sky.odds(6, 6), 2);
        Check.due("none at least", sky.odds(6, 0), 10000);
        Check.due("more than days", sky.odds(5, 6), 0);
        Check.due("no days", sky.odds(0, 0), 10000);
        Check.due("gale 0", Check.sky("gale 0").odds(6, 1), 0);
        Check.due("gale 100", Check.sky("gale 100").odds(6, 6), 10000);
        Check.due("gale 99", Check.sky("gale 99").odds(6, 1), 9999);
        Check.throwsDue("7", IllegalArgumentException.class, () -> sky.odds(7, 0));
        Check.throwsDue("-1", IllegalArgumentException.class, () -> sky.odds(-1, 0));
        Check.throwsDue("k 7", IllegalArgumentException.class, () -> sky.odds(0, 7));
        Check.throwsDue("k -1", IllegalArgumentException.class, () -> sky.odds(0, -1));
    }

    private static void needsAndTrialAndSpan() {
        PinnedSky sky = Check.sky("pin 14;pin 11 rust 50;pin 1;gale 100;need 14 15");
        Check.due("needs", sky.needs(9), 0);
        Check.due("needs 10", sky.needs(10), 1);
        Check.due("needs 60", sky.needs(60), 3);
        Check.due("needs 0", sky.needs(0), 0);
        Check.due("trial 1", sky.trial(1, false), 1);
        Check.due("trial 1, standing", sky.trial(1, true), 15);
        Check.due("trial 0, standing", sky.trial(0, true), 16);
        Check.due("trial 2", sky.trial(2, false), 2);
        sky.seed(2);
        Check.due("by its seed", sky.trial(1, false), onePinGone(2));
        int fewest = 1;
        int most = 0;
        for (int seed = 1; seed <= 6; seed++) {
            fewest = Math.min(fewest, onePinGone(seed));
            most = Math.max(most, onePinGone(seed));
        }
        sky.seed(777);
        Check.due("span, the fewest", sky.span(1, false), fewest);
        Check.due("span, the most", sky.span(1, true), most);
        Check.due("span of no day", sky.span(0, true), 0);
        for (int seed = 1; seed <= 7; seed++) {
            spanOfOneSeed(seed);
        }
        for (int n : new int[] {-1, 61}) {
            Check.throwsDue("needs " + n, IllegalArgumentException.class, () -> sky.needs(n));
            Check.throwsDue("trial " + n, IllegalArgumentException.class, () -> sky.trial(n, true));
            Check.throwsDue("span " + n, IllegalArgumentException.class, () -> sky.span(n, true));
        }
    }

    /** Whether the gale of the first day from a seed finds one of the pins 14, 11 and 1. */
    private static int onePinGone(int seed) {
        int place = galePlace(seed);
        return place == 14 || place == 11 || place == 1 ? 1 : 0;
    }

    /** A pin where the first gale from this seed alone comes down. */
    private static void spanOfOneSeed(int seed) {
        int others = 0;
        for (int other = 1; other <= 6; other++) {
            others += other != seed && galePlace(other) == galePlace(seed) ? 1 : 0;
        }
        PinnedSky sky = Check.sky("gale 100;pin " + galePlace(seed));
        Check.due("the most by seed " + seed, sky.span(1, true), seed <= 6 || others > 0 ? 1 : 0);
        Check.due("the fewest by seed " + seed, sky.span(1, false), 0);
    }

    private static int galePlace(int seed) {
        int second = 1103515245 * (1103515245 * seed + 12345) + 12345;
        return (second >> 16 & 32767) % 16;
    }

    /** What was asked ahead of an act, a day or a text must not be answered again behind it. */
    private static void changesAreSeen() {
        PinnedSky pulled = Check.sky("pin 4 rust 60;need 4 20");
        Check.due("it does not hold", pulled.held(), 0);
        pulled.pull(4);
        Check.due("first by a new one", pulled.first(), 4);
        Check.due("fewest by a new one", pulled.fewest(-1), Check.set(4));
        PinnedSky game = Check.sky("pin 4 rust 60;need 4 20;need 9 20");
        game.low();
        game.pull(4);
        // the guild sets one of two pins that it needs
        Check.due("duke by a new one", game.duke(), 2);
        PinnedSky dated = Check.sky("pin 4", "strain 30 if day>0;strain 30 if day>0;rust 0");
        dated.days(1);
        Check.due("seen on day 1", seenBy(dated, false, 4, 0), 2);
        PinnedSky pinned = Check.sky("pin 4 rust 59;pinner 4 pace 1 brass 1");
        pinned.held();
        pinned.days(1);
        Check.due("gone", pinned.held(), 0);
        pinned.pin(0);
        Check.due("seen by the new one", seenBy(pinned, false, 4, 20), 1);
        PinnedSky law = Check.sky("pin 4;need 4 20");
        law.spare();
        Check.tape(law, "strain 30;strain 30");
        law.law();
        Check.due("seen by the law", seenBy(law, false, 4, 20), 0);
        Check.due("duke by the law", law.duke(), 32);
        Check.due("first by the law", law.first(), 0);
    }

    private static void nothingStays() {
        PinnedSky sky = Check.sky("pin 14;pin 11 rust 50;pin 1;gale 90;moths 90;pinner 3 pace 2 brass 1;bare 3");
        StringBuilder before = all(sky);
        sky.gives(true);
        sky.lasts();
        sky.ahead(3, 60, true);
        sky.needs(60);
        sky.trial(60, true);
        sky.span(60, true);
        sky.duke();
        sky.fewest(-1);
        sky.first();
        sky.key();
        sky.spare();
        sky.season();
        sky.best();
        sky.pay(7);
        seenBy(sky, true, 3, 3);
        climbBy(sky, 3, 3);
        goesTo(sky, 0, 9);
        Check.due("all behind asking", all(sky).toString(), before.toString());
    }

    private static StringBuilder all(PinnedSky sky) {
        StringBuilder all = new StringBuilder();
        for (int what = 0; what < 12; what++) {
            all.append(sky.count(what)).append(' ');
        }
        for (int place = 0; place < 16; place++) {
            for (int what = 0; what < 10; what++) {
                all.append(sky.place(place, what)).append(' ');
            }
        }
        int seed = sky.seed(1);
        sky.seed(seed);
        return all.append(seed).append(' ').append(sky.pinner(0, 0)).append(' ').append(sky.fault());
    }
}
