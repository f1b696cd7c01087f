/** Promises 1 to 6: a new object, the tape, the two texts and their faults. */
public final class TextsTest {
    public static void main(String[] args) {
        newObject();
        feedAndEnd();
        skyTexts();
        skyFaults();
        skyKeepsNothingWrong();
        twelveTexts();
        laws();
        lawFaults();
        lawMeaning();
        textsForgetActs();
        Check.finish("TextsTest");
    }

    private static void newObject() {
        PinnedSky sky = new PinnedSky();
        int[] counts = {0, 0, -1, 0, 20, 3, 0, 0, 0, 0, 0, 0};
        for (int what = 0; what < counts.length; what++) {
            Check.due("new count " + what, sky.count(what), counts[what]);
        }
        for (int place = 0; place < 16; place++) {
            int[] values = {0, 0, 0, 1, 0, 0, 0, 0, 0, 1};
            for (int what = 0; what < values.length; what++) {
                Check.due("new place " + place + " " + what, sky.place(place, what), values[what]);
            }
        }
        Check.due("new fault", sky.fault(), -1);
        Check.due("new seed", sky.seed(5), 1);
        Check.due("new undo", sky.undo(), false);
        Check.due("new back", sky.back(), false);
        Check.due("new low", sky.low(), 0);
        Check.due("new longest", sky.longest(), 16);
        Check.due("new weakest", sky.weakest(), -1);
        Check.due("new gives", sky.gives(false), -1);
        Check.due("new gives which", sky.gives(true), 0);
        Check.due("new lasts", sky.lasts(), -1);
        Check.due("new duke", sky.duke(), 17);
    }

    private static void feedAndEnd() {
        PinnedSky sky = new PinnedSky();
        Check.due("end of nothing", sky.end(0), true);
        Check.due("end beyond", sky.end(1), false);
        Check.due("end below", sky.end(-1), false);
        for (int i = 1; i <= 20; i++) {
            Check.due("feed " + i, sky.feed(i, i, i, i, i), 20 * i);
        }
        Check.due("feed beyond 400", sky.feed(1, 1, 1, 1, 1), -1);
        Check.due("end 401", sky.end(401), false);
        Check.due("end 400", sky.end(400), true);
        Check.due("end 381", sky.end(381), true);
        Check.due("feed to 401", sky.feed(1, 1, 1, 1, 1), -1);
        Check.due("end 380", sky.end(380), true);
        Check.due("feed to 400", sky.feed(1, 1, 1, 1, 1), 400);
        Check.due("end 0", sky.end(0), true);
        // the highest byte of each number comes first: "gale 7;tight 4;stock"
        Check.due("feed a text", sky.feed(0x67616c65, 0x20373b74, 0x69676874, 0x20343b73, 0x746f636b), 20);
        Check.due("feed more", sky.feed(0x20313233, 0xffffffff, 0xffffffff, -1, -1), 40);
        Check.due("end of the text", sky.end(24), true);
        Check.due("the text", sky.sky(), 1);
        Check.due("its tight", sky.count(5), 4);
        Check.due("its stock", sky.count(6), 123);
        Check.due("the tape is used up", sky.end(1), false);
    }

    private static void skyTexts() {
        PinnedSky sky = new PinnedSky();
        Check.tape(sky, "  pin 3 rust 99 ;pin15;ground 3 9;need 3 20;tree 4 9;bare 3;"
            + "pinner 7 pace 9 brass 30;height 40;tight 0;gale 100;moths 100;stock 999; pinner0pace1brass0 ");
        Check.due("sky", sky.sky(), 1);
        int[] three = {9, 20, 0, 0, 1, 99, 0, 0};
        for (int what = 0; what < three.length; what++) {
            Check.due("place 3 " + what, sky.place(3, what), three[what]);
        }
        Check.due("pin 15", sky.place(15, 4), 1);
        Check.due("tree 4", sky.place(4, 2), 9);
        Check.due("pinners", sky.count(0), 2);
        Check.due("pinner 0 place", sky.pinner(0, 0), 7);
        Check.due("pinner 0 pace", sky.pinner(0, 1), 9);
        Check.due("pinner 0 brass", sky.pinner(0, 2), 30);
        Check.due("pinner 1 pace", sky.pinner(1, 1), 1);
        Check.due("height", sky.count(4), 40);
        Check.due("tight", sky.count(5), 0);
        Check.due("stock", sky.count(6), 999);
        Check.due("odds by gale 100", sky.odds(6, 6), 10000);
        Check.tape(sky, "ground 3 1;ground 3 2;height 7;stock 5;need 3 0;pinner 2 pace 3 brass 4");
        Check.due("another text", sky.sky(), 2);
        Check.due("the later ground", sky.place(3, 0), 2);
        Check.due("need again", sky.place(3, 1), 0);
        Check.due("stock again", sky.count(6), 5);
        Check.due("three pinners", sky.count(0), 3);
        Check.due("pins stay", sky.count(7), Check.set(3, 15));
        Check.tape(sky, "   ");
        Check.due("blanks alone", sky.sky(), 3);
        Check.due("empty", sky.sky(), 4);
        Check.due("no fault", sky.fault(), -1);
        Check.due("numbers with noughts", Check.sky("pin 007;stock 000").count(7), Check.set(7));
        Check.due("14 lines", Check.sky("gale 1" + ";gale 1".repeat(13)).count(1), 1);
    }

    private static void skyFault(String text, int fault) {
        PinnedSky sky = new PinnedSky();
        Check.tape(sky, text);
        Check.throwsDue("sky of " + text, IllegalArgumentException.class, () -> sky.sky());
        Check.due("fault of " + text, sky.fault(), fault);
        Check.due("texts behind " + text, sky.count(1), 0);
        Check.due("tape behind " + text, sky.end(1), false);
    }

    private static void skyFaults() {
        skyFault(";", 0);
        skyFault("  ;", 2);
        skyFault("pin", 3);
        skyFault("pin ", 4);
        skyFault("pin 16", 4);
        skyFault("pin 0001", 4);
        skyFault("pin 1 2", 6);
        skyFault("pin 1 rust", 10);
        skyFault("pin 1 rust 100", 11);
        skyFault("pin 1 rust 1 rust 1", 13);
        skyFault("pin 1 rusty 1", 6);
        skyFault("pins 1", 0);
        skyFault("Pin 1", 0);
        skyFault("bin 1", 0);
        skyFault("pinz 1", 0);
        skyFault("apin 1", 0);
        skyFault("pin\t1", 3);
        skyFault("pin 1;;", 6);
        skyFault("pin 1; ", 7);
        skyFault("pin 1;pin 2;pin 01", 16);
        skyFault("ground 1", 8);
        skyFault("ground 12", 9);
        skyFault("ground 1 10", 9);
        skyFault("need 1 21", 7);
        skyFault("tree 1 10", 7);
        skyFault("tree x 1", 5);
        skyFault("bare", 4);
        skyFault("bare 1 1", 7);
        skyFault("pinner 1 brass 1", 9);
        skyFault("pinner 1 pace 10 brass 1", 14);
        skyFault("pinner 1 pace 1", 15);
        skyFault("pinner 1 pace 1 brass 31", 22);
        skyFault("height 0", 7);
        skyFault("height 41", 7);
        skyFault("tight 10", 6);
        skyFault("gale 101", 5);
        skyFault("moths 101", 6);
        skyFault("stock 1000", 6);
        skyFault("gale -1", 5);
        skyFault("gale 1 gale 2", 7);
        skyFault("gale 1" + ";gale 1".repeat(13) + "; pin 1", 99);
        skyFault("gale 1" + ";gale 1".repeat(13) + ";", 98);
        skyFault("pinner 1 pace 1 brass 1" + ";pinner 1 pace 1 brass 1".repeat(4) + "; pinner", 121);
        skyFault("\u00e9", 0);
        skyFault("gale 1\u0000", 6);
    }

    private static void skyKeepsNothingWrong() {
        PinnedSky sky = Check.sky("pin 4;pinner 1 pace 1 brass 1");
        Check.tape(sky, "pin 5;height 9;pinner 2 pace 2 brass 2;ground 1 1;bare 2;pin 4");
        Check.throwsDue("a pin twice", IllegalArgumentException.class, () -> sky.sky());
        Check.due("the pin twice", sky.fault(), 61);
        Check.due("pins", sky.count(7), Check.set(4));
        Check.due("height", sky.count(4), 20);
        Check.due("pinners", sky.count(0), 1);
        Check.due("ground", sky.place(1, 0), 0);
        Check.due("ladder", sky.place(2, 3), 1);
        Check.due("texts", sky.count(1), 1);
        Check.tape(sky, "pinner 2 pace 2 brass 2" + ";pinner 2 pace 2 brass 2".repeat(4));
        Check.throwsDue("five more pinners", IllegalArgumentException.class, () -> sky.sky());
        Check.due("the sixth", sky.fault(), 96);
        sky.sky();
        Check.due("fault of a right text", sky.fault(), -1);
    }

    private static void twelveTexts() {
        PinnedSky sky = new PinnedSky();
        for (int i = 1; i <= 12; i++) {
            Check.due("text " + i, sky.sky(), i);
        }
        Check.tape(sky, "pin 1");
        Check.throwsDue("text 13", UnsupportedOperationException.class, () -> sky.sky());
        Check.due("nothing of it", sky.count(7), 0);
        Check.due("tape of it", sky.end(1), false);
        Check.tape(sky, "pin 99");
        Check.throwsDue("wrong text 13", IllegalArgumentException.class, () -> sky.sky());
        Check.due("its fault", sky.fault(), 4);
        Check.throwsDue("right text 13", UnsupportedOperationException.class, () -> sky.sky());
        Check.due("it was read", sky.fault(), -1);
        Check.due("texts", sky.count(1), 12);
    }

    private static void laws() {
        PinnedSky sky = new PinnedSky();
        Check.tape(sky, "strain 30;rust 0 if pinned;hold if(gap<3)and not day>5 or tree+ground+rust+place<7+1;hold");
        Check.due("law", sky.law(), 4);
        Check.due("lines", sky.count(2), 4);
        Check.tape(sky, " rust 1 ");
        Check.due("law again", sky.law(), 1);
        Check.due("lines again", sky.count(2), 1);
        Check.due("no law line", sky.law(), 0);
        Check.due("no lines", sky.count(2), 0);
        Check.tape(sky, "hold if ((((((pinned))))))and not not not not not not pinned");
        Check.due("six deep", sky.law(), 1);
        Check.tape(sky, "hold" + ";hold".repeat(11));
        Check.due("12 lines", sky.law(), 12);
        Check.tape(sky, "hold if 1<2" + "or1<2".repeat(77));
        Check.due("a long line", sky.law(), 1);
    }

    private static void lawFault(String text, int fault) {
        PinnedSky sky = new PinnedSky();
        Check.tape(sky, "hold;rust 7");
        sky.law();
        Check.tape(sky, text);
        Check.throwsDue("law of " + text, IllegalArgumentException.class, () -> sky.law());
        Check.due("fault of " + text, sky.fault(), fault);
        Check.due("lines behind " + text, sky.count(2), 2);
        Check.due("tape behind " + text, sky.end(1), false);
    }

    private static void lawFaults() {
        lawFault("strain", 6);
        lawFault("strain 31", 7);
        lawFault("strain 0030", 7);
        lawFault("strain 3 3", 9);
        lawFault("strain 3 pinned", 9);
        lawFault("strain if pinned", 7);
        lawFault("hold 5", 5);
        lawFault("pin 5", 0);
        lawFault("hold if", 7);
        lawFault("hold if ", 8);
        lawFault("hold if pinned and", 18);
        lawFault("hold if pinned or or pinned", 18);
        lawFault("hold if pinned pinned", 15);
        lawFault("hold if pinned)", 14);
        lawFault("hold if (pinned", 15);
        lawFault("hold if (pinned;hold", 15);
        lawFault("hold if ()", 9);
        lawFault("hold if pinned < 3", 15);
        lawFault("hold if gap", 11);
        lawFault("hold if gap = 3", 12);
        lawFault("hold if gap < 3 < 4", 16);
        lawFault("hold if gap < 1000", 14);
        lawFault("hold if gap +", 13);
        lawFault("hold if gap + < 3", 14);
        lawFault("hold if (gap) < 3", 12);
        lawFault("hold if height < 3", 8);
        lawFault("hold if notpinned", 8);
        lawFault("hold if ((((((( pinned)))))))", 14);
        lawFault("hold if (not (not (not (not pinned", 23);
        lawFault("hold;", 5);
        lawFault("hold" + ";hold".repeat(11) + "; hold", 61);
        lawFault("hold" + ";hold".repeat(11) + ";", 60);
        lawFault("hold,hold", 4);
    }

    /** Strain at a place tells whether a condition holds there. */
    private static int strain(String condition, int place) {
        PinnedSky sky = Check.sky("pin 2 rust 40;pin 9 rust 7;tree 9 3;ground 2 5;bare 9;bare 4",
            "strain 5 if " + condition);
        return sky.place(place, 6) - sky.place(place, 2);
    }

    private static void lawMeaning() {
        String[] yes = {"pinned", "laddered", "place<3", "place > 1", "rust>39", "rust<41", "ground>4", "gap>6",
            "gap<8", "day<1", "tree<1", "rust+gap+ground>51", "not place>2", "not not pinned",
            "pinned or day>0 and day>0", "(pinned or day>0) and place<3", "not(day>0 and pinned)",
            "day>0 and pinned or pinned", "day>0 or day>0 or pinned", "1+1<3 and 2<1+2"};
        for (String condition : yes) {
            Check.due(condition, strain(condition, 2), 5);
            Check.due("not ( " + condition, strain("not (" + condition + ")", 2), 0);
        }
        Check.due("not binds the next alone", strain("not day>0 and day>0", 2), 0);
        Check.due("and binds closer", strain("pinned or pinned and day>0", 2), 5);
        Check.due("parts in brackets", strain("(pinned or pinned) and day>0", 2), 0);
        Check.due("rust without a pin", strain("rust<1", 3), 5);
        Check.due("pinned without a pin", strain("pinned", 3), 0);
        Check.due("gap without a pin", strain("gap<2", 3), 5);
        Check.due("gap between", strain("gap>2 and gap<4", 6), 5);
        Check.due("laddered, bare", strain("laddered", 4), 0);
        Check.due("tree", strain("tree>2 and tree<4", 9), 5);
        Check.due("less is not the same", strain("place<2", 2), 0);
        PinnedSky later = Check.sky("", "strain 5 if 0<1 and 0+0<1 and not 0>0;strain 6 if day<4;strain 7 if day>2");
        later.days(3);
        Check.due("noughts and days on day 3", later.place(0, 6), 18);
        Check.due("more is not the same", strain("place>2", 2), 0);
        PinnedSky alone = Check.sky("pin 5", "strain 3 if gap>15 and gap<17;strain 4;rust 2;rust 3 if gap>15;rust 9 if gap<16");
        Check.due("strain of an only pin", alone.place(5, 6), 7);
        Check.due("strain beside it", alone.place(6, 6), 4);
        Check.due("rusts", alone.rusts(5), 5);
        Check.due("rusts without a pin", alone.rusts(6), 0);
        alone.law();
        Check.due("rusts by a law without lines", alone.rusts(5), 0);
        PinnedSky held = Check.sky("pin 5 rust 60;pin 6 rust 59", "hold if place>5");
        Check.due("what holds", held.held(), Check.set(6));
        Check.tape(held, "hold if place<6;strain 1");
        held.law();
        Check.due("what a hold line holds", held.held(), Check.set(5));
    }

    private static void textsForgetActs() {
        PinnedSky sky = Check.sky("pin 1;tree 2 2");
        sky.fell(2);
        sky.pull(1);
        Check.tape(sky, "x");
        Check.throwsDue("a wrong law", IllegalArgumentException.class, () -> sky.law());
        Check.throwsDue("a wrong sky", IllegalArgumentException.class, () -> {
            Check.tape(sky, "x");
            return sky.sky();
        });
        Check.due("acts behind wrong texts", sky.count(11), 2);
        sky.law();
        Check.due("acts behind a law", sky.count(11), 0);
        Check.due("undo behind a law", sky.undo(), false);
        sky.fell(2);
        sky.sky();
        Check.due("acts behind a sky", sky.count(11), 0);
    }
}
