/** Edges of promises 32 to 42: pay, season, best, lasts, stars, longest, ahead, odds, needs, trial, span. */
public final class EdgeSeasonsTest {
    private static final int[] NO_DAYS = {Integer.MIN_VALUE, -60, -2, -1, 61, 62, Integer.MAX_VALUE};
    private static final int[] NO_PLACE = {Integer.MIN_VALUE, -2, -1, 16, 17, 32, Integer.MAX_VALUE};

    public static void main(String[] args) {
        pay();
        refusedPay();
        season();
        best();
        lasts();
        stars();
        refusedStars();
        longest();
        aheadFrom0To60();
        refusedAhead();
        odds();
        oddsRoundedDown();
        refusedOdds();
        needs();
        refusedNeeds();
        trial();
        trialLeavesNothing();
        refusedTrial();
        span();
        refusedSpan();
        Check.finish("EdgeSeasonsTest");
    }

    /** Pins, acts, an image, winds, and a text on the tape. */
    private static PinnedSky rich() {
        PinnedSky sky = Check.sky("pin 3;pin 9 rust 40;pin 14;pinner 4 pace 1 brass 1;need 4 17;gale 40;moths 40", "rust 2");
        sky.pin(0);
        sky.image();
        sky.height(22);
        sky.days(1);
        Check.tape(sky, "stock 77");
        return sky;
    }

    private static void pay() {
        Check.holds(32, "PAY: how many PLACES that STAND now would not STAND, if HEIGHT was N less.");
        PinnedSky sky = Check.sky("pin 3;need 3 18;need 4 16;need 5 20");
        Check.due("0 less", sky.pay(0), 0);
        Check.due("1 less: 16 of 16 at 4", sky.pay(1), 0);
        Check.due("2 less: 15 of 16 at 4", sky.pay(2), 1);
        Check.due("3 less: 17 of 18 at 3", sky.pay(3), 2);
        Check.due("19 less", sky.pay(19), 2);
        Check.due("the height is as it was", sky.count(4), 20);
        PinnedSky low = Check.sky("pin 3;height 1;need 3 1");
        Check.due("0 of height 1", low.pay(0), 0);
        PinnedSky high = Check.everywhere("need # 1");
        Check.more(high, "pin 8;height 40;tight 0");
        Check.due("39 of height 40", high.pay(39), 0);
        Check.more(high, "tight 1");
        // at height 1 place 8 alone has more than 0
        Check.due("39 of height 40, tight 1", high.pay(39), 15);
        Check.due("no pin", new PinnedSky().pay(19), 0);
        PinnedSky slack = Check.sky("pin 3;need 9 14;tight 1");
        Check.due("14 of 14, six steps by 1", slack.pay(0), 0);
        Check.due("13 of 14, six steps by 1", slack.pay(1), 1);
        PinnedSky other = Check.sky("pin 3;need 3 20;ground 3 9;height 30;need 6 20;tight 1");
        Check.due("29 of 29 at 3, 26 of 20 at 6", other.pay(1), 0);
        Check.due("28 of 29 at 3", other.pay(2), 1);
        Check.due("20 of 20 at 6", other.pay(7), 1);
        Check.due("19 of 20 at 6", other.pay(8), 2);
    }

    private static void refusedPay() {
        Check.holds(32, "IllegalArgumentException: N is none (0 to HEIGHT less 1).");
        for (int n : new int[] {Integer.MIN_VALUE, -1, 22, 23, 40, Integer.MAX_VALUE}) {
            Check.refused("pay " + n + " of 22", IllegalArgumentException.class, EdgeSeasonsTest::rich, sky -> sky.pay(n));
        }
        Check.due("pay 21 of 22", Check.outcome(() -> rich().pay(21)).startsWith("throws"), false);
        Check.refused("pay 1 of 1", IllegalArgumentException.class, () -> Check.sky("height 1"), sky -> sky.pay(1));
        Check.refused("pay 40 of 40", IllegalArgumentException.class, () -> Check.sky("height 40"), sky -> sky.pay(40));
        Check.refused("pay 20 of a new sky", IllegalArgumentException.class, PinnedSky::new, sky -> sky.pay(20));
    }

    private static void season() {
        Check.holds(33, "SEASON: the TIGHT (0 to 9) by which the most PLACES STAND (of several the least).");
        Check.due("no pin: all alike", new PinnedSky().season(), 0);
        Check.due("all alike", Check.sky("pin 3;tight 9").season(), 0);
        PinnedSky sky = Check.sky("pin 3;tight 9;need 9 20;need 4 18");
        Check.due("the slackest lets all stand", sky.season(), 0);
        Check.due("tight is as it was", sky.count(5), 9);
        Check.due("no pin that holds", Check.sky("pin 3 rust 60;need 3 1").season(), 0);
    }

    private static void best() {
        Check.holds(34, "BEST: the least HEIGHT (1 to 40) by which all PLACES STAND that would by 40.");
        Check.due("no pin", new PinnedSky().best(), 1);
        Check.due("nobody needs", Check.sky("pin 3").best(), 1);
        Check.due("1 is needed", Check.sky("pin 3;need 3 1").best(), 1);
        Check.due("2 is needed", Check.sky("pin 3;need 3 2").best(), 2);
        Check.due("20 and a ground of 9", Check.sky("pin 3;need 3 20;ground 3 9").best(), 29);
        Check.due("two trees more", Check.sky("pin 3;need 3 20;ground 3 9;tree 3 5").best(), 39);
        Check.due("40 is needed", Check.sky("pin 3;need 4 20;ground 4 9;tree 4 4").best(), 40);
        // one more step away it would not by 40, and counts no more
        Check.due("41 would be needed", Check.sky("pin 3;need 4 20;ground 4 9;tree 4 5;tight 2").best(), 1);
        Check.due("the most of two", Check.sky("pin 3;need 3 7;need 4 5").best(), 8);
        Check.due("by its tight, 1", Check.sky("pin 3;need 5 10;tight 1").best(), 12);
        Check.due("by its tight, 9", Check.sky("pin 3;need 5 10;tight 9").best(), 28);
        Check.due("by its tight, 0", Check.sky("pin 3;need 15 20;tight 0").best(), 20);
        Check.due("from above", best(40), 8);
        Check.due("from below", best(1), 8);
        PinnedSky sky = Check.sky("pin 3;need 3 7");
        sky.best();
        Check.due("the height is as it was", sky.count(4), 20);
    }

    private static int best(int height) {
        PinnedSky sky = Check.sky("pin 3;need 3 7;need 4 5;need 14 20");
        sky.height(height);
        return sky.best();
    }

    private static void lasts() {
        Check.holds(35, "LASTS: the first N (0 to 60) AHEAD by which some PLACE that STANDS now does not; none.");
        Check.due("no pin", new PinnedSky().lasts(), -1);
        Check.due("nobody needs", Check.sky("pin 3 rust 59").lasts(), -1);
        Check.due("in 1", Check.sky("pin 3 rust 59;need 3 1").lasts(), 1);
        Check.due("in 2", Check.sky("pin 3 rust 58;need 3 1").lasts(), 2);
        Check.due("in 60", Check.sky("pin 3;need 3 1").lasts(), 60);
        PinnedSky late = Check.sky("pin 3;need 3 1", "rust 1 if day>0");
        Check.due("in 61: none", late.lasts(), -1);
        late.days(1);
        Check.due("a day later, in 60", late.lasts(), 60);
        Check.due("what does not stand now is no matter", Check.sky("pin 3 rust 60;need 3 1").lasts(), -1);
        Check.due("held by another one", Check.sky("pin 3 rust 59;pin 4;need 3 17").lasts(), 60);
        Check.due("not held by another one", Check.sky("pin 3 rust 59;pin 4;need 3 18").lasts(), 1);
        Check.due("by the day alone", Check.sky("pin 3;need 3 1", "strain 30 if day>4;strain 30 if day>4").lasts(), 5);
        Check.due("no wind ahead", Check.sky("pin 14;need 14 1;gale 100;moths 100").lasts(), 60);
    }

    private static void stars() {
        Check.holds(36, "STARS: how many PINS HOLD from one PLACE to another one (both, too).");
        PinnedSky sky = Check.sky("pin 0;pin 15;pin 7;pin 8 rust 60");
        Check.due("0 to 15", sky.stars(0, 15), 3);
        Check.due("0 to 14", sky.stars(0, 14), 2);
        Check.due("1 to 15", sky.stars(1, 15), 2);
        Check.due("1 to 14", sky.stars(1, 14), 1);
        Check.due("0 to 0", sky.stars(0, 0), 1);
        Check.due("15 to 15", sky.stars(15, 15), 1);
        Check.due("7 to 7", sky.stars(7, 7), 1);
        Check.due("8 to 8, that does not hold", sky.stars(8, 8), 0);
        Check.due("1 to 6", sky.stars(1, 6), 0);
        Check.due("no pin", new PinnedSky().stars(0, 15), 0);
        Check.due("all", Check.everywhere("pin #").stars(0, 15), 16);
    }

    private static void refusedStars() {
        Check.holds(36, "IllegalArgumentException: the first PLACE is above the other one.");
        Check.refused("1 to 0", IllegalArgumentException.class, EdgeSeasonsTest::rich, sky -> sky.stars(1, 0));
        Check.refused("15 to 14", IllegalArgumentException.class, EdgeSeasonsTest::rich, sky -> sky.stars(15, 14));
        Check.refused("15 to 0", IllegalArgumentException.class, EdgeSeasonsTest::rich, sky -> sky.stars(15, 0));
        Check.holds(36, "IndexOutOfBoundsException: there is no such PLACE, PINNER.");
        for (int place : NO_PLACE) {
            Check.refused("from " + place, IndexOutOfBoundsException.class, EdgeSeasonsTest::rich,
                sky -> sky.stars(place, 15));
            Check.refused("to " + place, IndexOutOfBoundsException.class, EdgeSeasonsTest::rich,
                sky -> sky.stars(0, place));
            Check.refused("15 to " + place, IndexOutOfBoundsException.class, EdgeSeasonsTest::rich,
                sky -> sky.stars(15, place));
            Check.refused(place + " to 0", IndexOutOfBoundsException.class, EdgeSeasonsTest::rich,
                sky -> sky.stars(place, 0));
        }
    }

    private static void longest() {
        Check.holds(37, "LONGEST: the longest row of PLACES one behind another without a PIN that HOLDS.");
        Check.due("no pin", new PinnedSky().longest(), 16);
        Check.due("a pin everywhere", Check.everywhere("pin #").longest(), 0);
        Check.due("none holds", Check.everywhere("pin # rust 60").longest(), 16);
        Check.due("at 0", Check.sky("pin 0").longest(), 15);
        Check.due("at 15", Check.sky("pin 15").longest(), 15);
        Check.due("at both ends", Check.sky("pin 0;pin 15").longest(), 14);
        Check.due("the last row", Check.sky("pin 7").longest(), 8);
        Check.due("the first row", Check.sky("pin 8").longest(), 8);
        Check.due("between", Check.sky("pin 4;pin 11").longest(), 6);
        Check.due("one that does not hold between", Check.sky("pin 3;pin 12;pin 7 rust 60").longest(), 8);
        PinnedSky one = Check.everywhere("pin #");
        one.pull(15);
        Check.due("one place, the last", one.longest(), 1);
    }

    private static void aheadFrom0To60() {
        Check.holds(38, "AHEAD by N DAYS (0 to 60): as so many DAYS without (b).");
        PinnedSky sky = Check.sky("pin 3;pin 9 rust 30;gale 100;moths 100");
        Check.due("sky now", sky.ahead(9, 0, false), 20);
        Check.due("rust now", sky.ahead(9, 0, true), 30);
        Check.due("rust in 1", sky.ahead(9, 1, true), 31);
        Check.due("rust in 29", sky.ahead(9, 29, true), 59);
        Check.holds(38, "AHEAD of a PLACE: SKY (rust false), or RUST (0 without a PIN).");
        Check.due("gone in 30", sky.ahead(9, 30, true), 0);
        Check.due("sky in 29", sky.ahead(9, 29, false), 20);
        Check.due("sky in 30, by the other one", sky.ahead(9, 30, false), 2);
        Check.due("rust of the other one in 59", sky.ahead(3, 59, true), 59);
        Check.due("gone in 60", sky.ahead(3, 60, true), 0);
        Check.due("sky in 60", sky.ahead(3, 60, false), 0);
        Check.due("no pin", sky.ahead(15, 60, true), 0);
        Check.due("place 0", sky.ahead(0, 5, false), 11);
        Check.due("nothing stays", sky.place(9, 5), 30);
        Check.due("no day", sky.count(3), 0);
        Check.due("no draw", sky.seed(1), 1);
        Check.due("no act", sky.count(11), 0);
        Check.due("rust at most", Check.sky("pin 3", "rust 30;hold").ahead(3, 60, true), 99);
        // sky of a day ahead is asked with the day it is then
        PinnedSky dated = Check.sky("pin 3", "strain 30 if day>4;strain 30 if day>4");
        Check.due("sky in 4", dated.ahead(3, 4, false), 20);
        Check.due("sky in 5", dated.ahead(3, 5, false), 0);
        Check.due("its day is as it was", dated.held(), Check.set(3));
    }

    private static void refusedAhead() {
        Check.holds(38, "IllegalArgumentException: N is none.");
        for (int n : NO_DAYS) {
            for (boolean rust : new boolean[] {false, true}) {
                Check.refused("ahead by " + n, IllegalArgumentException.class, EdgeSeasonsTest::rich,
                    sky -> sky.ahead(3, n, rust));
            }
        }
        Check.holds(38, "IndexOutOfBoundsException: there is no such PLACE, PINNER.");
        for (int place : NO_PLACE) {
            Check.refused("ahead of " + place, IndexOutOfBoundsException.class, EdgeSeasonsTest::rich,
                sky -> sky.ahead(place, 3, true));
            Check.refused("ahead of " + place + " by 61", IndexOutOfBoundsException.class, EdgeSeasonsTest::rich,
                sky -> sky.ahead(place, 61, false));
        }
    }

    private static void odds() {
        Check.holds(39, "ODDS of N DAYS (0 to 6) with K gales (0 to 6) at least, by GALE, each alike, in 10000, rounded down.");
        PinnedSky even = Check.sky("gale 50");
        int[] six = {10000, 9843, 8906, 6562, 3437, 1093, 156};
        for (int k = 0; k <= 6; k++) {
            Check.due("6 days, " + k + " of 50", even.odds(6, k), six[k]);
        }
        Check.due("0 days, 0 gales", even.odds(0, 0), 10000);
        for (int k = 1; k <= 6; k++) {
            Check.due("0 days, " + k, even.odds(0, k), 0);
            Check.due("5 days, 6", even.odds(5, 6), 0);
        }
        Check.due("1 day, 1", even.odds(1, 1), 5000);
        Check.due("1 day, 2", even.odds(1, 2), 0);
        PinnedSky never = Check.sky("gale 0");
        PinnedSky always = Check.sky("gale 100");
        for (int n = 0; n <= 6; n++) {
            Check.due("none at least, gale 0, days " + n, never.odds(n, 0), 10000);
            Check.due("all, gale 100, days " + n, always.odds(n, n), 10000);
            if (n > 0) {
                Check.due("one at least, gale 0, days " + n, never.odds(n, 1), 0);
            }
            if (n < 6) {
                Check.due("more than days, gale 100, days " + n, always.odds(n, n + 1), 0);
            }
        }
    }

    private static void oddsRoundedDown() {
        Check.holds(39, "in 10000, rounded down");
        PinnedSky one = Check.sky("gale 1");
        Check.due("1 in 100", one.odds(1, 1), 100);
        Check.due("1 in 10000", one.odds(2, 2), 1);
        Check.due("1 in 1000000", one.odds(3, 3), 0);
        // 1 less 0.99 to the power of 6 is 0.0585..
        Check.due("one of six", one.odds(6, 1), 585);
        PinnedSky most = Check.sky("gale 99");
        Check.due("99 in 100", most.odds(1, 1), 9900);
        Check.due("0.9801", most.odds(2, 2), 9801);
        Check.due("0.970299", most.odds(3, 3), 9702);
        Check.due("all but one in 1000000000000", most.odds(6, 1), 9999);
        Check.due("none at least", most.odds(6, 0), 10000);
    }

    private static void refusedOdds() {
        Check.holds(39, "IllegalArgumentException: N or K are none.");
        for (int n : new int[] {Integer.MIN_VALUE, -6, -1, 7, 8, Integer.MAX_VALUE}) {
            Check.refused("odds of " + n, IllegalArgumentException.class, EdgeSeasonsTest::rich, sky -> sky.odds(n, 0));
            Check.refused("odds with " + n, IllegalArgumentException.class, EdgeSeasonsTest::rich, sky -> sky.odds(6, n));
            Check.refused("odds of " + n + " with it", IllegalArgumentException.class, EdgeSeasonsTest::rich,
                sky -> sky.odds(n, n));
        }
    }

    private static void needs() {
        Check.holds(40, "NEEDS of N DAYS (0 to 60) AHEAD: how many PINS are gone by then.");
        Check.due("no pin", new PinnedSky().needs(60), 0);
        PinnedSky sky = Check.sky("pin 3;pin 9 rust 30;pin 14 rust 99;gale 100;moths 100");
        Check.due("0 days", sky.needs(0), 0);
        Check.due("1 day", sky.needs(1), 1);
        Check.due("29 days", sky.needs(29), 1);
        Check.due("30 days", sky.needs(30), 2);
        Check.due("59 days", sky.needs(59), 2);
        Check.due("60 days", sky.needs(60), 3);
        Check.due("nothing is gone", sky.count(9), 0);
        Check.due("no draw", sky.seed(1), 1);
        Check.due("all 16", Check.everywhere("pin #").needs(60), 16);
        PinnedSky gone = Check.sky("pin 3 rust 59;pin 9");
        gone.days(1);
        Check.due("those from now on", gone.needs(59), 1);
    }

    private static void refusedNeeds() {
        Check.holds(40, "IllegalArgumentException: N is none.");
        for (int n : NO_DAYS) {
            Check.refused("needs " + n, IllegalArgumentException.class, EdgeSeasonsTest::rich, sky -> sky.needs(n));
        }
    }

    private static void trial() {
        Check.holds(41, "TRIAL of N DAYS (0 to 60) from now (draws, too; nothing stays): PINS gone; PLACES that STAND then, how "
            + "many.");
        PinnedSky sky = Check.sky("pin 14;pin 3;need 14 1;need 3 20;gale 100", "rust 0");
        Check.due("0 days", sky.trial(0, false), 0);
        Check.due("0 days, standing", sky.trial(0, true), 16);
        // from SEED 1 the first gale comes to 14, the next ones to 11 and 11, ..
        Check.due("1 day", sky.trial(1, false), 1);
        Check.due("1 day, standing", sky.trial(1, true), 15);
        Check.due("60 days: both", sky.trial(60, false), 2);
        Check.due("60 days, standing", sky.trial(60, true), 14);
        Check.due("no pin", new PinnedSky().trial(60, false), 0);
        Check.due("no pin, standing", new PinnedSky().trial(60, true), 16);
        PinnedSky all = Check.everywhere("pin #");
        Check.due("all 16", all.trial(60, false), 16);
        PinnedSky low = Check.everywhere("need # 1");
        Check.due("none stands", low.trial(0, true), 0);
        Check.due("59 days without winds", Check.sky("pin 3").trial(59, false), 0);
        Check.due("60 days without winds", Check.sky("pin 3").trial(60, false), 1);
    }

    private static void trialLeavesNothing() {
        Check.holds(41, "draws, too; nothing stays");
        PinnedSky sky = rich();
        int first = sky.trial(60, false);
        sky.trial(60, true);
        sky.span(60, true);
        sky.needs(60);
        sky.ahead(3, 60, true);
        sky.gives(true);
        sky.lasts();
        Check.due("the same trial again", sky.trial(60, false), first);
        Check.due("all behind it", State.toTheEnd(sky), State.toTheEnd(rich()));
        Check.due("what the days come to", rich().days(60), first);
    }

    private static void refusedTrial() {
        Check.holds(41, "IllegalArgumentException: N is none.");
        for (int n : NO_DAYS) {
            for (boolean stand : new boolean[] {false, true}) {
                Check.refused("trial " + n, IllegalArgumentException.class, EdgeSeasonsTest::rich,
                    sky -> sky.trial(n, stand));
            }
        }
    }

    /** How many of the seeds 1 to 6 send the first gale to this place. */
    private static int seedsTo(int place) {
        int seeds = 0;
        for (int seed = 1; seed <= 6; seed++) {
            seeds += Draws.draw(seed, 2) % 16 == place ? 1 : 0;
        }
        return seeds;
    }

    private static void span() {
        Check.holds(42, "SPAN: the fewest and the most PINS gone from SEED 1, 2, .. 6.");
        Check.due("no pin, fewest", new PinnedSky().span(60, false), 0);
        Check.due("no pin, most", new PinnedSky().span(60, true), 0);
        for (int place = 0; place < 16; place++) {
            PinnedSky sky = Check.sky("gale 100;pin " + place, "rust 0");
            sky.seed(12345);
            Check.due("most at " + place, sky.span(1, true), seedsTo(place) > 0 ? 1 : 0);
            Check.due("fewest at " + place, sky.span(1, false), seedsTo(place) == 6 ? 1 : 0);
        }
        PinnedSky all = Check.everywhere("pin #");
        Check.more(all, "gale 100");
        Check.due("0 days, most", all.span(0, true), 0);
        Check.due("0 days, fewest", all.span(0, false), 0);
        Check.due("1 day: one each", all.span(1, false) * 100 + all.span(1, true), 101);
        Check.due("60 days: all", all.span(60, false) * 100 + all.span(60, true), 1616);
        spanOfSeedsNextToThem();
        all.seed(77);
        all.span(60, true);
        Check.due("the seed is as it was", all.seed(77), 77);
        Check.due("without winds all seeds are alike", Check.sky("pin 3").span(60, false), 1);
    }

    private static int gone(String text, int seed, int days) {
        PinnedSky sky = Check.sky(text, "rust 0");
        sky.seed(seed);
        return sky.trial(days, false);
    }

    /** Skies of two pins of which SEED 0, or 7, would take more, or fewer, than any of 1 to 6: they do not count. */
    private static void spanOfSeedsNextToThem() {
        int found = 0;
        for (int place = 0; place < 15; place++) {
            for (int days = 1; days <= 9; days++) {
                String text = "gale 100;pin " + place + ";pin " + (place + 1);
                int fewest = 2;
                int most = 0;
                for (int seed = 1; seed <= 6; seed++) {
                    fewest = Math.min(fewest, gone(text, seed, days));
                    most = Math.max(most, gone(text, seed, days));
                }
                int below = gone(text, 0, days);
                int above = gone(text, 7, days);
                found |= (below < fewest ? 1 : 0) | (below > most ? 2 : 0) | (above < fewest ? 4 : 0) | (above > most ? 8 : 0);
                PinnedSky sky = Check.sky(text, "rust 0");
                Check.due("fewest of " + text + " in " + days, sky.span(days, false), fewest);
                Check.due("most of " + text + " in " + days, sky.span(days, true), most);
            }
        }
        Check.due("a seed next to them that takes more or fewer was found on either side",
            (found & 3) != 0 && (found & 12) != 0, true);
    }

    private static void refusedSpan() {
        Check.holds(42, "IllegalArgumentException: N is none.");
        for (int n : NO_DAYS) {
            for (boolean most : new boolean[] {false, true}) {
                Check.refused("span " + n, IllegalArgumentException.class, EdgeSeasonsTest::rich, sky -> sky.span(n, most));
            }
        }
    }
}
