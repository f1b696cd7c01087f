/** Edges of promises 18 to 25: low, held, gives, weakest, key, fewest, first, spare. */
public final class EdgeHoldingTest {
    public static void main(String[] args) {
        low();
        held();
        givesFrom1To60();
        givesNone();
        givesWhich();
        weakest();
        keys();
        keysByNumber();
        fewestOfNone();
        fewestUpToFour();
        fewestLeastOfSeveral();
        fewestWhereTheyCanBe();
        fewestHold();
        first();
        firstNone();
        spare();
        Check.finish("EdgeHoldingTest");
    }

    private static void low() {
        Check.holds(18, "LOW: PLACES that do not STAND, as bits.");
        Check.due("none", new PinnedSky().low(), 0);
        PinnedSky all = Check.everywhere("need # 1");
        Check.due("all", all.low(), 65535);
        Check.due("0 alone", Check.sky("need 0 1").low(), 1);
        Check.due("15 alone", Check.sky("need 15 1").low(), 32768);
        Check.due("ground alone", Check.sky("ground 7 1").low(), Check.set(7));
        Check.more(all, "pin 0;tight 1;height 16");
        Check.due("15 stands by 1", all.low(), 0);
        all.height(15);
        Check.due("15 stands no more", all.low(), Check.set(15));
        all.height(14);
        Check.due("nor 14", all.low(), Check.set(14, 15));
        PinnedSky rusty = Check.sky("pin 3 rust 59;need 3 20");
        Check.due("by a pin that holds", rusty.low(), 0);
        Check.due("by one that does not", Check.sky("pin 3 rust 60;need 3 20").low(), Check.set(3));
    }

    private static void held() {
        Check.holds(19, "HELD: PINS that HOLD, as bits.");
        Check.due("no pin", new PinnedSky().held(), 0);
        Check.due("all 16", Check.everywhere("pin #").held(), 65535);
        Check.due("all 16 at 59", Check.everywhere("pin # rust 59").held(), 65535);
        Check.due("none of 16 at 60", Check.everywhere("pin # rust 60").held(), 0);
        Check.due("0 and 15", Check.sky("pin 0;pin 15;pin 7 rust 99").held(), Check.set(0, 15));
        Check.due("a hold line without pins", Check.sky("", "hold").held(), 0);
    }

    private static void givesFrom1To60() {
        Check.holds(20, "GIVES: in how many DAYS AHEAD (1 to 60) the first PINS are gone; none");
        Check.due("59 of rust: in 1", Check.sky("pin 3 rust 59").gives(false), 1);
        Check.due("99 of rust: in 1", Check.sky("pin 3 rust 99").gives(false), 1);
        Check.due("58 of rust: in 2", Check.sky("pin 3 rust 58").gives(false), 2);
        Check.due("1 of rust: in 59", Check.sky("pin 3 rust 1").gives(false), 59);
        Check.due("no rust: in 60", Check.sky("pin 3").gives(false), 60);
        // rust 1 a day from day 1 on: it would be gone by the 61st
        PinnedSky late = Check.sky("pin 3", "rust 1 if day>0");
        Check.due("in 61: none", late.gives(false), -1);
        Check.due("which then", late.gives(true), 0);
        late.days(1);
        Check.due("a day later, in 60", late.gives(false), 60);
        Check.due("which then", late.gives(true), Check.set(3));
    }

    private static void givesNone() {
        Check.holds(20, "GIVES: in how many DAYS (which false; NONE), or which, as bits.");
        Check.due("no pin", new PinnedSky().gives(false), -1);
        Check.due("no pin, which", new PinnedSky().gives(true), 0);
        Check.due("no rust", Check.sky("pin 3", "rust 0").gives(false), -1);
        Check.due("no rust, which", Check.sky("pin 3", "rust 0").gives(true), 0);
        Check.due("held", Check.everywhere("pin #").gives(true), 65535);
        PinnedSky held = Check.everywhere("pin #");
        Check.law(held, "rust 30;hold");
        Check.due("all held", held.gives(false), -1);
        Check.holds(20, "AHEAD by N DAYS (0 to 60): as so many DAYS without (b).");
        PinnedSky windy = Check.sky("pin 14 rust 40;gale 100;moths 100");
        Check.due("no wind ahead", windy.gives(false), 20);
        Check.due("nothing stays of it", windy.place(14, 5), 40);
        Check.due("no day", windy.count(3), 0);
        Check.due("no draw", windy.seed(1), 1);
    }

    private static void givesWhich() {
        Check.holds(20, "which, as bits (0 without)");
        PinnedSky sky = Check.sky("pin 0 rust 30;pin 15 rust 30;pin 7 rust 29");
        Check.due("the first ones", sky.gives(true), Check.set(0, 15));
        Check.due("in 30", sky.gives(false), 30);
        Check.due("all at once", Check.everywhere("pin # rust 59").gives(true), 65535);
        PinnedSky pair = Check.sky("pin 4 rust 30;pin 5 rust 30;pin 9", "strain 30 if gap<2");
        Check.due("either would hold without the other", pair.gives(true), Check.set(4, 5));
    }

    private static void weakest() {
        Check.holds(21, "WEAKEST: the PIN of the greatest RUST and STRAIN together (of several the least; none).");
        Check.due("none", new PinnedSky().weakest(), -1);
        Check.due("none, though trees strain", Check.sky("tree 3 9", "strain 30").weakest(), -1);
        Check.due("one at 0", Check.sky("pin 0").weakest(), 0);
        Check.due("one at 15", Check.sky("pin 15").weakest(), 15);
        Check.due("all alike", Check.everywhere("pin # rust 7").weakest(), 0);
        Check.due("alike by rust and tree", Check.sky("pin 9 rust 5;pin 4 rust 3;tree 4 2").weakest(), 4);
        Check.due("one more by rust", Check.sky("pin 9 rust 6;pin 4 rust 3;tree 4 2").weakest(), 9);
        Check.due("one that does not hold", Check.sky("pin 9 rust 99;pin 4 rust 59").weakest(), 9);
        Check.due("by the law", Check.sky("pin 9 rust 9;pin 4", "strain 10 if place<5").weakest(), 4);
        Check.due("alike by the law", Check.sky("pin 9 rust 10;pin 4", "strain 10 if place<5").weakest(), 4);
        Check.due("one less by the law", Check.sky("pin 9 rust 11;pin 4", "strain 10 if place<5").weakest(), 9);
    }

    private static void keys() {
        Check.holds(22, "KEY: PINS without which (that one alone being gone) more PLACES would not STAND than now, as bits.");
        Check.due("no pin", new PinnedSky().key(), 0);
        Check.due("nobody needs", Check.sky("pin 3").key(), 0);
        Check.due("its own place", Check.sky("pin 3;need 3 18").key(), Check.set(3));
        Check.due("the least need", Check.sky("pin 3;need 3 1").key(), Check.set(3));
        Check.due("at both ends", Check.sky("pin 0;pin 15;need 0 20;need 15 20").key(), Check.set(0, 15));
        // either is enough for both places
        Check.due("that one alone", Check.sky("pin 3;pin 4;need 3 17;need 4 17").key(), 0);
        Check.due("one less is not enough", Check.sky("pin 3;pin 4;need 3 18;need 4 17").key(), Check.set(3));
        Check.due("one that does not hold is none", Check.sky("pin 3 rust 60;need 3 0").key(), 0);
        PinnedSky all = Check.everywhere("pin #");
        Check.more(all, Check.each("need # 20", 0, 7));
        Check.due("the needed ones of all", all.key(), 255);
    }

    private static void keysByNumber() {
        Check.holds(22, "more PLACES would not STAND than now");
        // without 2 the other one holds: one stands for one
        PinnedSky swap = Check.sky("pin 2;pin 4 rust 52;need 2 18;need 4 18", "strain 8 if gap<3");
        Check.due("as many as now", swap.key(), 0);
        Check.more(swap, "need 1 15;need 3 15");
        // without 2 place 3 stands by 4, places 1 and 2 do not, place 4 does: 2 low for 1
        Check.due("more than now", swap.key(), Check.set(2));
        // a pin whose being gone lets another one hold is no key
        PinnedSky better = Check.sky("pin 2;pin 4 rust 52;need 4 18", "strain 8 if gap<3");
        Check.due("fewer than now", better.key(), 0);
    }

    private static void fewestOfNone() {
        Check.holds(23, "Sets are bits; of none they count for nothing.");
        PinnedSky sky = Check.sky("need 3 20");
        Check.due("no place", sky.fewest(0), 0);
        Check.due("a place that stands", sky.fewest(Check.set(0, 15)), 0);
        Check.due("bit 16", sky.fewest(1 << 16), 0);
        Check.due("bits 16 to 31", sky.fewest(-65536), 0);
        Check.due("bit 31", sky.fewest(Integer.MIN_VALUE), 0);
        Check.due("bits 16 to 31 and 3", sky.fewest(-65536 | 8), Check.set(3));
        Check.due("all bits", sky.fewest(-1), Check.set(3));
        Check.due("all bits but the sign", sky.fewest(Integer.MAX_VALUE), Check.set(3));
    }

    private static void fewestUpToFour() {
        Check.holds(23, "none, if more than 4 are needed, or it cannot be");
        PinnedSky sky = Check.everywhere("need # 20");
        Check.due("one", sky.fewest(Check.set(15)), Check.set(15));
        Check.due("two", sky.fewest(Check.set(0, 15)), Check.set(0, 15));
        Check.due("three", sky.fewest(Check.set(0, 1, 15)), Check.set(0, 1, 15));
        Check.due("four", sky.fewest(Check.set(0, 1, 14, 15)), Check.set(0, 1, 14, 15));
        Check.due("four more", sky.fewest(Check.set(12, 13, 14, 15)), Check.set(12, 13, 14, 15));
        Check.due("five", sky.fewest(Check.set(0, 1, 2, 14, 15)), -1);
        Check.due("sixteen", sky.fewest(65535), -1);
        sky.height(40);
        // by 40 a pin is enough for places up to six steps away: 9 is the least for 15, and does for 3 and more
        Check.due("by 40: two", sky.fewest(65535), Check.set(0, 9));
        Check.due("it cannot be", Check.sky("need 3 20;height 19").fewest(Check.set(3)), -1);
        Check.due("a ground too high", Check.sky("need 3 20;ground 3 1").fewest(Check.set(3)), -1);
    }

    private static void fewestLeastOfSeveral() {
        Check.holds(23, "of several sets the least as bits");
        Check.due("one of three", Check.sky("need 8 17").fewest(Check.set(8)), Check.set(7));
        Check.due("at the low end", Check.sky("need 0 17").fewest(Check.set(0)), Check.set(0));
        Check.due("at the high end", Check.sky("need 15 17").fewest(Check.set(15)), Check.set(14));
        // two of each: the least as bits has the least highest one
        Check.due("two", Check.sky("need 3 17;need 9 17").fewest(-1), Check.set(2, 8));
        // one at 7 does alone what two lower ones would
        Check.due("one is fewer than two lower ones", Check.sky("need 6 17;need 8 17").fewest(-1), Check.set(7));
        PinnedSky pair = Check.sky("need 2 20;need 5 14;need 7 14;bare 5;bare 6;bare 7");
        Check.due("2 and the least for each", pair.fewest(Check.set(2, 5, 7)), Check.set(2, 3, 8));
    }

    private static void fewestWhereTheyCanBe() {
        Check.holds(23, "RUST 0; at PLACES with a LADDER and without a PIN");
        Check.due("no ladder there", Check.sky("need 3 20;bare 3").fewest(8), -1);
        Check.due("a ladder beside", Check.sky("need 3 17;bare 3;bare 2").fewest(8), Check.set(4));
        Check.due("a pin there that does not hold", Check.sky("need 3 20;pin 3 rust 60").fewest(8), -1);
        Check.due("one beside it", Check.sky("need 3 17;pin 3 rust 60;bare 2").fewest(8), Check.set(4));
        PinnedSky bare = Check.everywhere("bare #");
        Check.due("no ladder at all, none needed", bare.fewest(65535), 0);
        Check.more(bare, "need 3 1");
        Check.due("no ladder at all", bare.fewest(65535), -1);
        PinnedSky full = Check.everywhere("pin # rust 60");
        Check.due("a pin everywhere, none needed", full.fewest(65535), 0);
        Check.more(full, "need 3 1");
        Check.due("a pin everywhere", full.fewest(65535), -1);
        // rust 0 of a new one, at a place whose rusty one was pulled
        PinnedSky pulled = Check.sky("need 3 20;pin 3 rust 99");
        pulled.pull(3);
        Check.due("where a rusty one was", pulled.fewest(8), Check.set(3));
        Check.due("first, where a rusty one was", pulled.first(), 3);
    }

    private static void fewestHold() {
        Check.holds(23, "whether these and the old ones HOLD is asked with all of them there");
        PinnedSky lone = Check.sky("need 3 20", "strain 30 if gap>15;strain 30 if gap>15");
        Check.due("a new one holds by another new one", lone.fewest(8), Check.set(0, 3));
        PinnedSky old = Check.sky("need 3 20;pin 3 rust 40", "strain 20 if gap>15");
        Check.due("an old one holds by a new one", old.fewest(8), Check.set(0));
        PinnedSky close = Check.sky("need 3 20;need 4 20", "strain 30 if gap<2;strain 30 if gap<2");
        Check.due("either alone", close.fewest(8), Check.set(3));
        Check.due("both let go", close.fewest(Check.set(3, 4)), -1);
        PinnedSky lost = Check.sky("need 3 20;pin 3 rust 40;need 6 20", "strain 20 if gap<4");
        Check.due("a new one at 6 lets the old one go", lost.fewest(Check.set(3, 6)), -1);
        Check.due("that is no matter to 6", lost.fewest(Check.set(6)), Check.set(6));
        PinnedSky strained = Check.sky("need 3 1;tree 3 9", "strain 30;strain 20 if tree>8");
        Check.due("strain 59 of a new one", strained.fewest(8), Check.set(3));
        Check.law(strained, "strain 30;strain 21 if tree>8");
        Check.due("strain 60 of a new one", strained.fewest(8), -1);
        PinnedSky never = Check.sky("need 3 1", "strain 30;strain 30");
        Check.due("none holds", never.fewest(8), -1);
    }

    private static void first() {
        Check.holds(24, "FIRST: the PLACE of the one new PIN (as there) by which the most PLACES STAND (of several the least; "
            + "none).");
        Check.due("all stand: the least", new PinnedSky().first(), 0);
        Check.due("at 15 alone", Check.sky("need 15 20").first(), 15);
        Check.due("the least of three", Check.sky("need 8 17").first(), 7);
        Check.due("two by one", Check.sky("need 2 20;need 9 17;need 11 17").first(), 10);
        Check.due("alike: the lower two", Check.sky("need 2 17;need 4 17;need 9 17;need 11 17").first(), 3);
        Check.due("no ladder at 3", Check.sky("need 3 20;bare 3").first(), 0);
        Check.due("no ladder at 0 to 13", lastLadders().first(), 14);
        PinnedSky lone = Check.sky("need 3 20;pin 3 rust 40", "strain 20 if gap>15");
        Check.due("by what an old one holds", lone.first(), 0);
        Check.due("what an old one does is done", Check.sky("pin 4;need 3 17;need 5 17;need 10 20").first(), 10);
        Check.due("what an old one does not", Check.sky("pin 4 rust 60;need 3 17;need 5 17;need 10 20").first(), 2);
        PinnedSky close = Check.sky("pin 8 rust 40;need 8 20;bare 0", "strain 20 if gap<8");
        Check.due("no place far enough: the least, though one goes", close.first(), 1);
    }

    private static PinnedSky lastLadders() {
        return Check.sky(Check.each("bare #", 0, 13));
    }

    private static void firstNone() {
        Check.holds(24, "FIRST; NONE.");
        PinnedSky sky = lastLadders();
        Check.more(sky, "pin 14");
        Check.due("15 alone is left", sky.first(), 15);
        Check.more(sky, "bare 15");
        Check.due("no ladder without a pin", sky.first(), -1);
        Check.due("no ladder", Check.everywhere("bare #").first(), -1);
        PinnedSky full = Check.everywhere("pin #");
        Check.due("a pin everywhere", full.first(), -1);
        full.pull(9);
        Check.due("9 alone is left", full.first(), 9);
    }

    private static void spare() {
        Check.holds(25, "SPARE: PINS each of which could be pulled alone so that all that STAND now STAND yet, as bits.");
        Check.due("no pin", new PinnedSky().spare(), 0);
        Check.due("nobody needs", Check.everywhere("pin #").spare(), 65535);
        Check.due("needed", Check.sky("pin 3;need 3 1").spare(), 0);
        Check.due("either alone", Check.sky("pin 3;pin 4;need 3 17;need 4 17").spare(), Check.set(3, 4));
        Check.due("one less is not enough", Check.sky("pin 3;pin 4;need 3 18;need 4 17").spare(), Check.set(4));
        Check.due("what does not stand now is no matter", Check.sky("pin 3;need 9 20").spare(), Check.set(3));
        PinnedSky swap = Check.sky("pin 2;pin 4 rust 52;need 2 18;need 4 18", "strain 8 if gap<3");
        Check.due("as many, but others", swap.spare(), Check.set(4));
        Check.due("one that does not hold", Check.sky("pin 3 rust 60;pin 9;need 9 20").spare(), Check.set(3));
        Check.due("nothing was pulled", swap.count(7), Check.set(2, 4));
    }
}
