import java.util.Arrays;

/** Edges of promises 17 and 45: days, what rusts by them, gales and moths by draws, what lets go, and the seed. */
public final class EdgeDaysTest {
    private static final int[] SEEDS = {Integer.MIN_VALUE, Integer.MIN_VALUE + 1, -65536, -2, -1, 0, 1, 2, 65535, 65536,
        Integer.MAX_VALUE - 1, Integer.MAX_VALUE};

    public static void main(String[] args) {
        daysFrom1To60();
        refusedDays();
        rustUpTo99();
        rustByAllAsItIs();
        galesBelowGale();
        galesFindEachPlace();
        galesThatFindNone();
        mothsBelowMoths();
        mothsUpTo99();
        mothsFindEachPlace();
        mothsBehindTheGale();
        firstDrawsAlways();
        letGoAtSixty();
        letGoAllAtOnce();
        howManyAreGone();
        dayUpTo9999();
        drawsGoRound();
        daysOfOneCall();
        seedWasAndIs();
        Check.finish("EdgeDaysTest");
    }

    /** Sixteen pins that do not rust and hold whatever comes, and a seed. */
    private static PinnedSky firm(String more, int seed) {
        PinnedSky sky = Check.everywhere("pin #");
        Check.more(sky, more);
        Check.law(sky, "rust 0;hold");
        sky.seed(seed);
        return sky;
    }

    private static void daysFrom1To60() {
        Check.holds(17, "So many DAYS more (1 to 60): how many PINS are gone by these.");
        PinnedSky sky = Check.sky("pin 3");
        Check.due("1 day", sky.days(1), 0);
        Check.due("day", sky.count(3), 1);
        Check.due("rust", sky.place(3, 5), 1);
        PinnedSky late = Check.sky("pin 3");
        Check.due("59 days", late.days(59), 0);
        Check.due("rust", late.place(3, 5), 59);
        PinnedSky later = Check.sky("pin 3");
        Check.due("60 days", later.days(60), 1);
        Check.due("day", later.count(3), 60);
        Check.due("no pin", later.count(7), 0);
    }

    private static PinnedSky rich() {
        PinnedSky sky = Check.sky("pin 3 rust 40;pin 9;pinner 4 pace 3 brass 3;gale 40;moths 40", "rust 2");
        sky.pin(0);
        sky.image();
        sky.days(2);
        Check.tape(sky, "stock 77;pin 14");
        return sky;
    }

    private static void refusedDays() {
        Check.holds(17, "IllegalArgumentException: they are none.");
        for (int n : new int[] {Integer.MIN_VALUE, -60, -1, 0, 61, 62, Integer.MAX_VALUE}) {
            Check.refused("days " + n, IllegalArgumentException.class, EdgeDaysTest::rich, sky -> sky.days(n));
        }
    }

    private static int rustBehind(int rust, String law, int days) {
        PinnedSky sky = Check.sky("pin 3 rust " + rust, law);
        sky.days(days);
        return sky.place(3, 5);
    }

    private static void rustUpTo99() {
        Check.holds(17, "RUST is more by what it RUSTS by (99 at most)");
        Check.due("97 and 1", rustBehind(97, "hold;rust 1", 1), 98);
        Check.due("98 and 1", rustBehind(98, "hold;rust 1", 1), 99);
        Check.due("99 and 1", rustBehind(99, "hold;rust 1", 1), 99);
        Check.due("69 and 30", rustBehind(69, "hold;rust 30", 1), 99);
        Check.due("70 and 30", rustBehind(70, "hold;rust 30", 1), 99);
        Check.due("0 and 360", rustBehind(0, "hold" + ";rust 30".repeat(11), 1), 99);
        Check.due("0 and 60 times 2", rustBehind(0, "hold;rust 2", 60), 99);
        Check.due("7 and 0", rustBehind(7, "hold;rust 0", 60), 7);
        Check.due("7 and no rust line", rustBehind(7, "hold", 60), 7);
        PinnedSky none = Check.sky("pin 3", "rust 9");
        none.days(1);
        Check.due("no rust where no pin is", none.place(4, 5), 0);
    }

    private static void rustByAllAsItIs() {
        Check.holds(17, "each PIN, by numbers, by all as it is by then");
        Check.due("until its rust is 5", rustBehind(0, "rust 1 if rust<5", 60), 5);
        Check.due("on day 0 alone", rustBehind(0, "rust 7 if day<1", 60), 7);
        Check.due("from day 58 on", rustBehind(0, "rust 7 if day>57", 60), 14);
        PinnedSky sky = Check.sky("pin 0;pin 15;pin 14 rust 59", "rust 1 if place>13;rust 5 if gap>13 and place<1");
        sky.days(1);
        Check.due("rust at 0 by a gap of 14", sky.place(0, 5), 5);
        Check.due("rust at 15", sky.place(15, 5), 1);
        Check.due("14 is gone", sky.count(7), Check.set(0, 15));
    }

    private static void galesBelowGale() {
        Check.holds(17, "If DRAW modulo 100 is below GALE: the PIN of the PLACE DRAW modulo 16 is gone (if there is one).");
        for (int odds : new int[] {0, 1, 37, 50, 98, 99}) {
            int seed = Draws.seedOf(any -> Draws.draw(any, 1) % 100 == odds);
            Check.due(odds + " is not below " + odds, firm("gale " + odds, seed).days(1), 0);
            Check.due(odds + " is below " + (odds + 1), firm("gale " + (odds + 1), seed).days(1), 1);
            Check.due(odds + " is not below 0", firm("gale 0", seed).days(1), 0);
            Check.due(odds + " is below 100", firm("gale 100", seed).days(1), 1);
        }
    }

    private static void galesFindEachPlace() {
        Check.holds(17, "the PIN of the PLACE DRAW modulo 16 is gone (if there is one)");
        for (int place = 0; place < 16; place++) {
            int found = place;
            PinnedSky sky = firm("gale 100", Draws.seedOf(any -> Draws.draw(any, 2) % 16 == found));
            sky.days(1);
            Check.due("pins without " + place, sky.count(7), 65535 - (1 << place));
            Check.due("place of its row", sky.log(0, 1), place);
            Check.due("it is gone", sky.log(0, 2), 3);
            Check.due("one is gone", sky.count(9), 1);
            Check.due("one row", sky.count(10), 1);
            Check.due("none is in stock", sky.count(6), 0);
        }
    }

    private static void galesThatFindNone() {
        Check.holds(17, "is gone (if there is one)");
        // from SEED 1 the first gale comes to 5758 modulo 16
        PinnedSky sky = Check.sky("pin 13;pin 15;gale 100");
        Check.due("the draw", Draws.draw(1, 2) % 16, 14);
        Check.due("none at 14", sky.days(1), 0);
        Check.due("pins", sky.count(7), Check.set(13, 15));
        Check.due("no row", sky.count(10), 0);
        Check.due("none is gone", sky.count(9), 0);
        PinnedSky empty = Check.sky("gale 100;moths 100");
        Check.due("no pin at all", empty.days(60), 0);
        Check.due("no row of none", empty.count(10), 0);
    }

    private static void mothsBelowMoths() {
        Check.holds(17, "If DRAW modulo 100 is below MOTHS: RUST of the PIN of the PLACE DRAW modulo 16 is 20 more");
        for (int odds : new int[] {0, 1, 37, 50, 98, 99}) {
            int seed = Draws.seedOf(any -> Draws.draw(any, 2) % 100 == odds);
            Check.due(odds + " is not below " + odds, rustOfAll("moths " + odds, seed), 0);
            Check.due(odds + " is below " + (odds + 1), rustOfAll("moths " + (odds + 1), seed), 20);
            Check.due(odds + " is not below 0", rustOfAll("moths 0", seed), 0);
            Check.due(odds + " is below 100", rustOfAll("moths 100", seed), 20);
        }
        Check.due("moths alone take none", firm("moths 100", 1).days(60), 0);
    }

    private static int rustOfAll(String moths, int seed) {
        PinnedSky sky = firm(moths, seed);
        sky.days(1);
        int rust = 0;
        for (int place = 0; place < 16; place++) {
            rust += sky.place(place, 5);
        }
        return rust;
    }

    private static void mothsUpTo99() {
        Check.holds(17, "is 20 more (99 at most; if there is one)");
        int place = Draws.draw(1, 3) % 16;
        int[] rusts = {0, 20, 78, 98, 79, 99, 80, 99, 98, 99, 99, 99};
        for (int i = 0; i < rusts.length; i += 2) {
            PinnedSky sky = Check.sky("moths 100;pin " + place + " rust " + rusts[i], "rust 0;hold");
            sky.days(1);
            Check.due("rust of " + rusts[i], sky.place(place, 5), rusts[i + 1]);
        }
        PinnedSky none = Check.sky("moths 100;pin " + (place + 1), "rust 0;hold");
        none.days(1);
        Check.due("no pin there, no rust", none.place(place, 5), 0);
        Check.due("nor beside", none.place(place + 1, 5), 0);
    }

    private static void mothsFindEachPlace() {
        Check.holds(17, "RUST of the PIN of the PLACE DRAW modulo 16 is 20 more");
        for (int place = 0; place < 16; place++) {
            int found = place;
            PinnedSky sky = firm("moths 100", Draws.seedOf(any -> Draws.draw(any, 3) % 16 == found));
            sky.days(1);
            Check.due("rust at " + place, sky.place(place, 5), 20);
            Check.due("rust beside", sky.place((place + 1) % 16, 5), 0);
        }
    }

    private static void mothsBehindTheGale() {
        Check.holds(17, "RUST of the PIN of the PLACE DRAW modulo 16 is 20 more (99 at most; if there is one)");
        int seed = Draws.seedOf(any -> Draws.draw(any, 2) % 16 == Draws.draw(any, 4) % 16);
        PinnedSky sky = firm("gale 100;moths 100", seed);
        Check.due("the gale took it", sky.days(1), 1);
        int place = Draws.draw(seed, 2) % 16;
        Check.due("pins", sky.count(7), 65535 - (1 << place));
        Check.due("no rust where none is", sky.place(place, 5), 0);
        Check.due("rust it had", sky.log(0, 3), 0);
        int other = Draws.seedOf(any -> Draws.draw(any, 2) % 16 != Draws.draw(any, 4) % 16);
        PinnedSky both = firm("gale 100;moths 100", other);
        both.days(1);
        Check.due("the gale's place by the second draw", both.count(7), 65535 - (1 << Draws.draw(other, 2) % 16));
        Check.due("the moths' place by the fourth", both.place(Draws.draw(other, 4) % 16, 5), 20);
        // rust comes first, then the gale
        PinnedSky rusty = Check.sky("gale 100;pin " + Draws.draw(1, 2) % 16 + " rust 8", "rust 4");
        rusty.days(1);
        Check.due("rust behind (a)", rusty.log(0, 3), 12);
    }

    private static int seedBehindADay(String text) {
        PinnedSky sky = Check.sky(text);
        sky.days(1);
        return sky.seed(0);
    }

    private static void firstDrawsAlways() {
        Check.holds(17, "(The first DRAW of each is made always.)");
        Check.due("no gale, no moths", seedBehindADay("gale 0;moths 0"), Draws.seedBehind(1, 2));
        Check.due("a gale that comes to no pin", seedBehindADay("gale 100"), Draws.seedBehind(1, 3));
        Check.due("moths that come to no pin", seedBehindADay("moths 100"), Draws.seedBehind(1, 3));
        Check.due("both", seedBehindADay("gale 100;moths 100"), Draws.seedBehind(1, 4));
        Check.due("both, with a pin", seedBehindADay("gale 100;moths 100;pin 14"), Draws.seedBehind(1, 4));
        Check.due("16838 modulo 100 is not below 38", seedBehindADay("gale 38"), Draws.seedBehind(1, 2));
        Check.due("16838 modulo 100 is below 39", seedBehindADay("gale 39"), Draws.seedBehind(1, 3));
        PinnedSky sky = new PinnedSky();
        sky.days(60);
        Check.due("two a day", sky.seed(0), Draws.seedBehind(1, 120));
    }

    private static void letGoAtSixty() {
        Check.holds(17, "PINS that do not HOLD then, all at once: gone.");
        Check.due("58 and 1", Check.sky("pin 3 rust 58").days(1), 0);
        Check.due("59 and 1", Check.sky("pin 3 rust 59").days(1), 1);
        Check.due("what does not hold already", Check.sky("pin 3 rust 99").days(1), 1);
        Check.due("what a hold line holds", Check.sky("pin 3 rust 99", "hold").days(60), 0);
        Check.due("by its tree", Check.sky("pin 3 rust 50;tree 3 9", "rust 1").days(1), 1);
        int place = Draws.draw(1, 3) % 16;
        Check.due("39 by moths", Check.sky("moths 100;pin " + place + " rust 39", "rust 0").days(1), 0);
        Check.due("40 by moths", Check.sky("moths 100;pin " + place + " rust 40", "rust 0").days(1), 1);
        // it is asked ahead of "DAY is 1 more"
        PinnedSky dated = Check.sky("pin 3 rust 40", "strain 20 if day>0");
        Check.due("on day 0", dated.days(1), 0);
        Check.due("it does not hold on day 1", dated.held(), 0);
        Check.due("and is gone by it", dated.days(1), 1);
        Check.due("the row's day", dated.log(0, 0), 1);
    }

    private static void letGoAllAtOnce() {
        Check.holds(17, "PINS that do not HOLD then, all at once: gone.");
        PinnedSky pair = Check.sky("pin 4 rust 30;pin 5 rust 30", "strain 30 if gap<2");
        Check.due("either would hold without the other", pair.days(1), 2);
        Check.due("both are gone", pair.count(7), 0);
        Check.due("rows by numbers, the latest first", pair.log(0, 1) * 100 + pair.log(1, 1), 504);
        PinnedSky chain = Check.sky("pin 4 rust 60;pin 6 rust 30", "strain 30 if gap>2 and place>5");
        Check.due("the first alone", chain.days(1), 1);
        Check.due("the next had another one beside yet", chain.count(7), Check.set(6));
        Check.due("it does not hold without", chain.held(), 0);
        Check.due("and is gone a day later", chain.days(1), 1);
        // a pin that the wind took is no other pin then
        int place = Draws.draw(1, 2) % 16;
        PinnedSky wind = Check.sky("gale 100;pin " + place + ";pin " + (place - 1) + " rust 30", "strain 30 if gap>15");
        Check.due("the wind's and the one that stood by it", wind.days(1), 2);
        Check.due("the wind's row is older", wind.log(1, 1), place);
    }

    private static void howManyAreGone() {
        Check.holds(17, "how many PINS are gone by these");
        PinnedSky all = Check.everywhere("pin #");
        Check.due("all 16", all.days(60), 16);
        Check.due("gone in all", all.count(9), 16);
        Check.due("rows", all.count(10), 16);
        Check.due("none any more", all.days(60), 0);
        Check.due("gone in all yet", all.count(9), 16);
        PinnedSky some = Check.sky("pin 1 rust 50;pin 2 rust 49;pin 3 rust 48");
        Check.due("by 10 days", some.days(10), 1);
        Check.due("by 2 days", some.days(2), 2);
    }

    private static void dayUpTo9999() {
        Check.holds(17, "DAY is 1 more (9999 at most)");
        PinnedSky sky = Check.sky("pin 3", "rust 0");
        for (int i = 0; i < 166; i++) {
            sky.days(60);
        }
        Check.due("9960", sky.count(3), 9960);
        sky.days(38);
        Check.due("9998", sky.count(3), 9998);
        sky.days(1);
        Check.due("9999", sky.count(3), 9999);
        sky.days(1);
        Check.due("9999 at most", sky.count(3), 9999);
        sky.days(60);
        Check.due("60 more", sky.count(3), 9999);
        sky.pull(3);
        Check.due("a row of that day", sky.log(0, 0), 9999);
        Check.due("led to it", sky.led(3, true), 9999);
        Check.more(sky, "pin 3 rust 99");
        Check.due("days go on all the same", sky.days(1), 1);
    }

    private static void drawsGoRound() {
        Check.holds(17, "SEED is 1103515245 times SEED and 12345, as an int that goes round; bits 16 to 30");
        int[] first = new int[6];
        for (int i = 0; i < 6; i++) {
            first[i] = Draws.draw(1, i + 1);
        }
        Check.due("draws from SEED 1", Arrays.toString(first), "[16838, 5758, 10113, 17515, 31051, 5627]");
        for (int seed : SEEDS) {
            PinnedSky calm = Check.sky("");
            calm.seed(seed);
            calm.days(1);
            Check.due("seed behind a day from " + seed, calm.seed(1), Draws.seedBehind(seed, 2));
            PinnedSky sky = firm("gale 100;moths 100", seed);
            sky.days(1);
            Check.due("gale from " + seed, sky.count(7), 65535 - (1 << Draws.draw(seed, 2) % 16));
            Check.due("seed behind it", sky.seed(1), Draws.seedBehind(seed, 4));
        }
        // a seed whose first number is below 0: its sign is no bit of the draw
        int below = Draws.seedOf(any -> Draws.seedBehind(any, 1) < 0 && Draws.draw(any, 1) % 100 < 50);
        Check.due("a gale by a number below 0", firm("gale 50", below).days(1), 1);
        int belowToo = Draws.seedOf(any -> Draws.seedBehind(any, 1) < 0 && Draws.draw(any, 1) % 100 >= 50);
        Check.due("no gale by a number below 0", firm("gale 50", belowToo).days(1), 0);
    }

    private static void daysOfOneCall() {
        Check.holds(17, "So many DAYS more (1 to 60)");
        PinnedSky one = firm("gale 70;moths 70", 5);
        PinnedSky many = firm("gale 70;moths 70", 5);
        int gone = one.days(60);
        int sum = 0;
        for (int day = 0; day < 60; day++) {
            sum += many.days(1);
        }
        Check.due("60 at once, and one by one", gone, sum);
        Check.due("acts", one.count(11) * 100 + many.count(11), 112);
        Check.due("seed", one.seed(1), many.seed(1));
        Check.due("pins", one.count(7), many.count(7));
        Check.due("rows", one.count(10), many.count(10));
        for (int place = 0; place < 16; place++) {
            Check.due("rust at " + place, one.place(place, 5), many.place(place, 5));
        }
    }

    private static void seedWasAndIs() {
        Check.holds(45, "SEED: what it was.");
        PinnedSky sky = new PinnedSky();
        int was = 1;
        for (int seed : SEEDS) {
            Check.due("seed " + seed, sky.seed(seed), was);
            was = seed;
        }
        Check.due("no act", sky.count(11), 0);
        Check.due("the seed that was told counts", sky.trial(0, false), 0);
        int seed = Draws.seedOf(any -> Draws.draw(any, 2) % 16 == 9);
        int other = Draws.seedOf(any -> Draws.draw(any, 2) % 16 == 8);
        Check.more(sky, "pin 9;gale 100");
        sky.seed(seed);
        Check.due("a gale at 9", sky.trial(1, false), 1);
        sky.seed(other);
        Check.due("a gale at 8", sky.trial(1, false), 0);
        Check.due("no draw by a trial", sky.seed(seed), other);
        Check.due("days by it", sky.days(1), 1);
        Check.due("the seed then", sky.seed(0), Draws.seedBehind(seed, 3));
    }
}
