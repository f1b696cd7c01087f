import java.util.function.ToIntFunction;

/** Edges of promises 4 and 6: texts of the sky, at the bounds of all that they tell, and their first wrong byte. */
public final class EdgeSkyTextTest {
    public static void main(String[] args) {
        placesOfLines();
        boundsOfValues();
        rustOfAPin();
        onePinAPlace();
        ladders();
        pinnersUpToFive();
        digits();
        linesUpTo14();
        textsUpTo12();
        emptyTexts();
        blanks();
        words();
        signs();
        moreMustCome();
        linesThatCannotStand();
        firstOfSeveralFaults();
        nothingStays();
        faultOfTheLatest();
        fullTapes();
        usesTheTapeUp();
        Check.finish("EdgeSkyTextTest");
    }

    private static void wrong(String text, int fault) {
        wrong(new PinnedSky(), text, fault);
    }

    private static void wrong(PinnedSky sky, String text, int fault) {
        Check.tape(sky, text);
        Check.throwsDue("sky of '" + text + "'", IllegalArgumentException.class, () -> sky.sky());
        Check.due("fault of '" + text + "'", sky.fault(), fault);
    }

    private static void right(String text, String what, ToIntFunction<PinnedSky> asked, int answer) {
        PinnedSky sky = new PinnedSky();
        Check.tape(sky, text);
        Check.due("sky of '" + text + "'", Check.outcome(() -> sky.sky()), "1");
        Check.due("fault of '" + text + "'", sky.fault(), -1);
        Check.due(what + " by '" + text + "'", asked.applyAsInt(sky), answer);
    }

    private static void placesOfLines() {
        Check.holds(4, "N of pin, and the first N of ground, need, tree, bare, pinner: a PLACE");
        right("pin 0", "pins", sky -> sky.count(7), 1);
        right("pin 15", "pins", sky -> sky.count(7), 32768);
        wrong("pin 16", 4);
        right("ground 0 3", "ground", sky -> sky.place(0, 0), 3);
        right("ground 15 3", "ground", sky -> sky.place(15, 0), 3);
        wrong("ground 16 3", 7);
        right("need 0 3", "need", sky -> sky.place(0, 1), 3);
        right("need 15 3", "need", sky -> sky.place(15, 1), 3);
        wrong("need 16 3", 5);
        right("tree 0 3", "tree", sky -> sky.place(0, 2), 3);
        right("tree 15 3", "tree", sky -> sky.place(15, 2), 3);
        wrong("tree 16 3", 5);
        right("bare 0", "ladder", sky -> sky.place(0, 3), 0);
        right("bare 15", "ladder", sky -> sky.place(15, 3), 0);
        wrong("bare 16", 5);
        right("pinner 0 pace 3 brass 3", "its place", sky -> sky.pinner(0, 0), 0);
        right("pinner 15 pace 3 brass 3", "its place", sky -> sky.pinner(0, 0), 15);
        wrong("pinner 16 pace 3 brass 3", 7);
        wrong("pin 999", 4);
        wrong("pin -1", 4);
    }

    private static void boundsOfValues() {
        Check.holds(4, "GROUND 0 to 9 (0 at first)");
        right("ground 5 7;ground 5 0", "ground", sky -> sky.place(5, 0), 0);
        right("ground 5 9", "ground", sky -> sky.place(5, 0), 9);
        wrong("ground 5 10", 9);
        Check.holds(4, "NEED 0 to 20 (0 at first)");
        right("need 5 7;need 5 0", "need", sky -> sky.place(5, 1), 0);
        right("need 5 20", "need", sky -> sky.place(5, 1), 20);
        wrong("need 5 21", 7);
        Check.holds(4, "TREE 0 to 9 (0 at first)");
        right("tree 5 7;tree 5 0", "tree", sky -> sky.place(5, 2), 0);
        right("tree 5 9", "tree", sky -> sky.place(5, 2), 9);
        wrong("tree 5 10", 7);
        Check.holds(4, "All PINS hold at HEIGHT 1 to 40 (20 at first).");
        wrong("height 0", 7);
        right("height 1", "height", sky -> sky.count(4), 1);
        right("height 40", "height", sky -> sky.count(4), 40);
        wrong("height 41", 7);
        Check.holds(4, "tight: 0 to 9");
        right("tight 0", "tight", sky -> sky.count(5), 0);
        right("tight 9", "tight", sky -> sky.count(5), 9);
        wrong("tight 10", 6);
        Check.holds(4, "GALE 0 to 100, MOTHS 0 to 100 (0 at first).");
        right("gale 100;gale 0", "odds", sky -> sky.odds(1, 1), 0);
        right("gale 1", "odds", sky -> sky.odds(1, 1), 100);
        right("gale 99", "odds", sky -> sky.odds(1, 1), 9900);
        right("gale 100", "odds", sky -> sky.odds(1, 1), 10000);
        wrong("gale 101", 5);
        right("pin 1;moths 100;moths 0", "rust behind a day", EdgeSkyTextTest::rustBehindADay, 1);
        right("pin 1;moths 100", "rust behind a day", EdgeSkyTextTest::rustBehindADay, 21);
        wrong("moths 101", 6);
        Check.holds(4, "stock: 0 to 999");
        right("stock 7;stock 0", "stock", sky -> sky.count(6), 0);
        right("stock 999", "stock", sky -> sky.count(6), 999);
        wrong("stock 1000", 6);
    }

    /** From SEED 1 moths come to place 1 on the first day, if they come. */
    private static int rustBehindADay(PinnedSky sky) {
        sky.days(1);
        return sky.place(1, 5);
    }

    private static void rustOfAPin() {
        Check.holds(4, "RUST 0 without");
        right("pin 5", "rust", sky -> sky.place(5, 5), 0);
        Check.holds(4, "a PIN or none, and its RUST 0 to 99");
        right("pin 5 rust 0", "rust", sky -> sky.place(5, 5), 0);
        right("pin 5 rust 99", "rust", sky -> sky.place(5, 5), 99);
        wrong("pin 5 rust 100", 11);
        wrong("pin 5 rust 999", 11);
    }

    private static void onePinAPlace() {
        Check.holds(4, "pin: one that has no PIN yet");
        wrong("pin 5;pin 5", 10);
        wrong("pin 5;pin 6;pin 5 rust 3", 16);
        wrong("pin 5;pin 005", 10);
        PinnedSky sky = Check.sky("pin 5 rust 7;pinner 6 pace 1 brass 1");
        wrong(sky, "pin 4;pin 5", 10);
        Check.due("the pin of the earlier text", sky.place(5, 5), 7);
        Check.due("no other one", sky.count(7), Check.set(5));
        sky.pin(0);
        wrong(sky, "pin 6", 4);
        sky.pull(5);
        Check.due("where it was pulled", Check.more(sky, "pin 5 rust 8"), 2);
        Check.due("its rust", sky.place(5, 5), 8);
        PinnedSky gone = Check.sky("pin 5 rust 59");
        gone.days(1);
        Check.due("where it is gone", Check.more(gone, "pin 5"), 2);
        Check.due("all 16 places have one", Check.everywhere("pin #").count(7), 65535);
        for (int place = 0; place < 16; place++) {
            wrong(Check.everywhere("pin #"), "pin " + place, 4);
        }
    }

    private static void ladders() {
        Check.holds(4, "bare: it has no LADDER");
        right("bare 5;bare 5", "ladder", sky -> sky.place(5, 3), 0);
        right("bare 5", "ladder beside", sky -> sky.place(4, 3), 1);
        right("pin 5;bare 5", "pins", sky -> sky.count(7), Check.set(5));
        right("bare 5;pin 5", "pins", sky -> sky.count(7), Check.set(5));
        Check.holds(4, "LADDER or not (one everywhere at first)");
        for (int place = 0; place < 16; place++) {
            Check.due("a ladder at " + place, new PinnedSky().place(place, 3), 1);
        }
        PinnedSky all = Check.everywhere("bare #");
        for (int place = 0; place < 16; place++) {
            Check.due("no ladder at " + place, all.place(place, 3), 0);
        }
    }

    private static void pinnersUpToFive() {
        Check.holds(4, "PINNERS (at most 5, numbered from 0 on)");
        PinnedSky sky = Check.sky("pinner 1 pace 1 brass 1;pinner 2 pace 2 brass 2;pinner 3 pace 3 brass 3");
        Check.due("two more", Check.more(sky, "pinner 4 pace 4 brass 4;pinner 5 pace 5 brass 5"), 2);
        Check.due("five", sky.count(0), 5);
        for (int pinner = 0; pinner < 5; pinner++) {
            Check.due("place of " + pinner, sky.pinner(pinner, 0), pinner + 1);
            Check.due("pace of " + pinner, sky.pinner(pinner, 1), pinner + 1);
            Check.due("brass of " + pinner, sky.pinner(pinner, 2), pinner + 1);
        }
        Check.holds(4, "a PINNER too many, the first word");
        wrong(sky, "pinner 6 pace 6 brass 6", 0);
        wrong(sky, "gale 1; pinner 6 pace 6 brass 6", 8);
        wrong(sky, "pinner", 0);
        wrong(sky, " pinner 99", 1);
        String one = "pinner 1 pace 1 brass 1";
        wrong(one + (";" + one).repeat(5), 120);
        wrong(Check.sky(one), one + (";" + one).repeat(4), 96);
        Check.due("five yet", sky.count(0), 5);
        Check.holds(4, "a PLACE, PACE 1 to 9, BRASS 0 to 30");
        wrong("pinner 1 pace 0 brass 1", 14);
        right("pinner 1 pace 1 brass 1", "pace", it -> it.pinner(0, 1), 1);
        right("pinner 1 pace 9 brass 1", "pace", it -> it.pinner(0, 1), 9);
        wrong("pinner 1 pace 10 brass 1", 14);
        right("pinner 1 pace 1 brass 0", "brass", it -> it.pinner(0, 2), 0);
        right("pinner 1 pace 1 brass 30", "brass", it -> it.pinner(0, 2), 30);
        wrong("pinner 1 pace 1 brass 31", 22);
    }

    private static void digits() {
        Check.holds(6, "a number of more digits, or out of its bounds, or that tells none that can be");
        wrong("pin 0003", 4);
        wrong("pin 3 rust 100", 11);
        wrong("pin 3;pin 3", 10);
        Check.holds(4, "Numbers are of 1 to 3 digits.");
        right("stock 7", "stock", sky -> sky.count(6), 7);
        right("stock 07", "stock", sky -> sky.count(6), 7);
        right("stock 007", "stock", sky -> sky.count(6), 7);
        right("stock 000", "stock", sky -> sky.count(6), 0);
        wrong("stock 0007", 6);
        wrong("stock 0000", 6);
        wrong("stock 9999", 6);
        wrong("stock", 5);
        right("pin 015 rust 099", "rust", sky -> sky.place(15, 5), 99);
        wrong("pin 0015", 4);
        // 2 to the power of 32 and of 64, and far more, are no numbers of three digits either
        wrong("pin 4294967297", 4);
        wrong("stock 18446744073709551616", 6);
        wrong("stock " + "0".repeat(390) + "1", 6);
        wrong("stock " + "9".repeat(394), 6);
        wrong("ground 0005 1", 7);
        wrong("ground 5 0001", 9);
    }

    private static void linesUpTo14() {
        Check.holds(4, "LINE { ; LINE }, at most 14");
        String thirteen = "gale 1" + ";gale 1".repeat(12);
        right("stock 5", "stock", sky -> sky.count(6), 5);
        right(thirteen + ";stock 5", "stock", sky -> sky.count(6), 5);
        right(thirteen + " ; stock 5 ", "stock", sky -> sky.count(6), 5);
        Check.holds(4, "of a LINE, a PINNER too many, the first word");
        wrong(thirteen + ";stock 5;stock 6", 99);
        wrong(thirteen + ";gale 1;gale 1", 98);
        wrong(thirteen + ";gale 1; gale 1", 99);
        wrong(thirteen + ";gale 1;gale 999", 98);
        wrong(thirteen + ";gale 1;gale 1;gale 1;x", 98);
        Check.holds(4, "or the text's length, if more must come");
        wrong(thirteen + ";gale 1;", 98);
        wrong(thirteen + ";gale 1;  ", 100);
        wrong(thirteen + ";", 91);
    }

    private static void textsUpTo12() {
        Check.holds(4, "THE SKY is told in texts (at most 12, one behind another)");
        PinnedSky sky = new PinnedSky();
        for (int texts = 1; texts <= 12; texts++) {
            Check.due("text " + texts, Check.more(sky, "pin " + texts + ";stock " + texts), texts);
            Check.due("texts", sky.count(1), texts);
        }
        Check.due("one behind another", sky.count(7), 8190);
        Check.due("the latest stock", sky.count(6), 12);
        Check.holds(4, "UnsupportedOperationException: there are 12.");
        Check.tape(sky, "pin 13;stock 13");
        Check.throwsDue("text 13", UnsupportedOperationException.class, () -> sky.sky());
        Check.due("twelve texts", sky.count(1), 12);
        Check.due("no pin of it", sky.count(7), 8190);
        Check.due("no stock of it", sky.count(6), 12);
        Check.due("its tape is used up", State.bytes(sky), 0);
        Check.throwsDue("an empty text 13", UnsupportedOperationException.class, () -> sky.sky());
        Check.due("a law is none of them", Check.law(sky, "hold"), 1);
        Check.holds(4, "Of several exceptions the one told first is thrown");
        wrong(sky, "pin 16", 4);
        wrong(sky, "pin 1", 4);
        Check.holds(6, "The first wrong byte of the latest text that was read; NONE without one");
        Check.tape(sky, "gale 1");
        Check.throwsDue("text 13 that is right", UnsupportedOperationException.class, () -> sky.sky());
        Check.due("fault of a right text", sky.fault(), -1);
        PinnedSky wrongOnes = new PinnedSky();
        for (int i = 0; i < 13; i++) {
            wrong(wrongOnes, "x", 0);
        }
        Check.holds(4, "Of a wrong text nothing stays.");
        Check.due("wrong ones are not counted", wrongOnes.sky(), 1);
    }

    private static void emptyTexts() {
        Check.holds(4, "A text that is empty, or blanks alone, has no LINE.");
        right("", "texts", sky -> sky.count(1), 1);
        right(" ", "texts", sky -> sky.count(1), 1);
        right(" ".repeat(400), "texts", sky -> sky.count(1), 1);
        PinnedSky sky = Check.sky("pin 3;height 7;pinner 1 pace 1 brass 1");
        Check.due("an empty text", sky.sky(), 2);
        Check.due("pins stay", sky.count(7), Check.set(3));
        Check.due("height stays", sky.count(4), 7);
        Check.due("pinners stay", sky.count(0), 1);
    }

    private static void blanks() {
        Check.holds(4, "between all there may be blanks (32), also ahead and behind");
        right("   pin   3   rust   7   ;   stock   5   ", "rust", sky -> sky.place(3, 5), 7);
        right("pin3rust7;stock5", "rust", sky -> sky.place(3, 5), 7);
        right("pinner3pace4brass5", "brass", sky -> sky.pinner(0, 2), 5);
        right("pin 3rust 7", "rust", sky -> sky.place(3, 5), 7);
        for (int sign : new int[] {0, 9, 10, 11, 12, 13, 31, 33, 127, 128, 160, 255}) {
            wrong((char) sign + "pin 3", 0);
            wrong("pin" + (char) sign + "3", 3);
            wrong("pin 3" + (char) sign, 5);
            wrong("pin 3 " + (char) sign + ";pin 4", 6);
        }
        wrong("pi n 3", 0);
        wrong("ground 1 2 3", 11);
        wrong("stock 1 0", 8);
    }

    private static void words() {
        Check.holds(4, "Words are as long as a to z go on");
        wrong("pins 3", 0);
        wrong("pinrust 3", 0);
        wrong("pi 3", 0);
        wrong("p", 0);
        wrong("pinn 3", 0);
        wrong("pinnerpace 3", 0);
        wrong("pin 3 rusty 4", 6);
        wrong("pin 3 rus 4", 6);
        wrong("pin 3 rustpin 4", 6);
        wrong("pinner 3 paces 4", 9);
        wrong("pinner 3 pace 4 brasses 4", 16);
        wrong("zpin 3", 0);
        wrong("pinz 3", 0);
        wrong("apin 3", 0);
        wrong("pina 3", 0);
        Check.holds(4, "a word that is none");
        for (String word : new String[] {"pin", "ground", "need", "tree", "bare", "pinner", "height", "tight", "gale",
            "moths", "stock"}) {
            Misspelt.each(word, other -> wrong(other + " 1", 0));
        }
        Misspelt.each("rust", other -> wrong("pin 1 " + other + " 1", 6));
        Misspelt.each("pace", other -> wrong("pinner 1 " + other + " 1", 9));
        Misspelt.each("brass", other -> wrong("pinner 1 pace 1 " + other + " 1", 16));
        wrong("star 3", 0);
        wrong("rust 3", 0);
        wrong("pace 3", 0);
        wrong("brass 3", 0);
        wrong("strain 3", 0);
        wrong("hold", 0);
        wrong("day 3", 0);
        wrong("gale 1;star 3", 7);
        wrong("x".repeat(400), 0);
    }

    /** The signs beside a, z, 0 and 9 belong to no word and to no number. */
    private static void signs() {
        Check.holds(4, "the begin of the first thing that cannot stand there");
        for (char sign : new char[] {'`', '{', '@', 'A', 'Z', '[', '/', ':', '.', ',', '-', '+', '(', (char) 225}) {
            wrong(sign + "pin 3", 0);
            wrong("pin" + sign + "3", 3);
            wrong("pin " + sign, 4);
            wrong("pin 3" + sign, 5);
            wrong("pin 3 rust 4" + sign + "5", 12);
        }
        wrong("Pin 3", 0);
        wrong("pIn 3", 0);
        wrong("piN 3", 0);
    }

    private static void moreMustCome() {
        Check.holds(6, "or the text's length, if more must come");
        String[] begun = {"pin", "pin 3 rust", "ground", "ground 3", "need", "need 3", "tree", "tree 3", "bare",
            "pinner", "pinner 3", "pinner 3 pace", "pinner 3 pace 4", "pinner 3 pace 4 brass", "height", "tight",
            "gale", "moths", "stock", "pin 3;", "pin 3;need 4"};
        for (String text : begun) {
            wrong(text, text.length());
            wrong(text + "  ", text.length() + 2);
            wrong("  " + text, text.length() + 2);
            if (!text.endsWith(";")) {
                wrong(text + ";", text.length());
            }
        }
    }

    private static void linesThatCannotStand() {
        Check.holds(6, "the begin of the first thing that cannot stand there");
        wrong(";", 0);
        wrong(" ;", 1);
        wrong(";pin 3", 0);
        wrong("pin 3;;pin 4", 6);
        wrong("pin 3; ;pin 4", 7);
        wrong("3", 0);
        wrong("3 pin", 0);
        wrong("pin pin 3", 4);
        wrong("pin rust 3", 4);
        wrong("pin 3 4", 6);
        wrong("pin 3 pin 4", 6);
        wrong("pin 3 rust rust", 11);
        wrong("pin 3 rust 4 rust 5", 13);
        wrong("ground 3 rust", 9);
        wrong("bare 3 4", 7);
        wrong("pinner 3 4", 9);
        wrong("pinner 3 brass 4 pace 5", 9);
        wrong("pinner 3 pace brass 5", 14);
        wrong("pinner 3 pace 4 5", 16);
        wrong("pinner pace 4 brass 5", 7);
        wrong("pinner 3 pace 4 brass 5 6", 24);
        wrong("height 3 4", 9);
        wrong("height 3 rust 4", 9);
    }

    private static void firstOfSeveralFaults() {
        Check.holds(6, "The first wrong byte");
        wrong("pin 16;pin 17;x", 4);
        wrong("ground 16 10", 7);
        wrong("ground 1 10 11", 9);
        wrong("pin 3 rust 100;pin 3", 11);
        wrong("pin 3;pin 3 rust 100", 10);
        wrong("pinner 16 pace 10 brass 31", 7);
        wrong("pinner 1 pace 10 brass 31", 14);
        // the number of more digits begins ahead of its fourth digit
        wrong("stock 12345;x", 6);
    }

    private static PinnedSky rich() {
        PinnedSky sky = Check.sky("pin 4 rust 5;pinner 1 pace 1 brass 1;bare 9;tree 2 2;need 7 7;gale 30", "rust 2");
        sky.fell(2);
        sky.image();
        sky.pull(4);
        return sky;
    }

    private static void nothingStays() {
        Check.holds(4, "Of a wrong text nothing stays.");
        String changes = "pin 5;height 9;pinner 2 pace 2 brass 2;ground 1 1;need 1 1;tree 1 1;bare 2;tight 1;gale 99;"
            + "moths 99;stock 99;";
        for (String end : new String[] {"pin 5", "x", "", "pin 6 rust", "stock 1000"}) {
            PinnedSky sky = rich();
            Check.tape(sky, changes + end);
            Check.throwsDue("changes and " + end, IllegalArgumentException.class, () -> sky.sky());
            PinnedSky twin = rich();
            Check.tape(twin, " ".repeat(sky.fault()) + "x");
            Check.throwsDue("blanks and x", IllegalArgumentException.class, () -> twin.sky());
            Check.due("all behind changes and '" + end + "'", State.toTheEnd(sky), State.toTheEnd(twin));
        }
        PinnedSky sky = rich();
        int acts = sky.count(11);
        Check.tape(sky, "x");
        Check.throwsDue("x", IllegalArgumentException.class, () -> sky.sky());
        Check.due("acts are remembered behind a wrong text", sky.count(11), acts);
    }

    private static void faultOfTheLatest() {
        Check.holds(6, "NONE without one, and ahead of any");
        PinnedSky sky = new PinnedSky();
        Check.due("ahead of any", sky.fault(), -1);
        Check.tape(sky, "x");
        Check.due("a text that was not read yet", sky.fault(), -1);
        sky.end(0);
        Check.holds(6, "The first wrong byte of the latest text that was read");
        wrong(sky, "pin 16", 4);
        Check.due("asked again", sky.fault(), 4);
        Check.tape(sky, "x");
        Check.due("fed, but not read", sky.fault(), 4);
        Check.throwsDue("a tape that is no row of places", IllegalArgumentException.class, () -> sky.goes(-1));
        Check.tape(sky, "x");
        Check.throwsDue("a tape that tells no heights", IllegalArgumentException.class, () -> sky.seen(false));
        Check.tape(sky, "x");
        Check.throwsDue("a tape that tells no heights", IllegalArgumentException.class, () -> sky.climb());
        Check.due("those tapes were no texts", sky.fault(), 4);
        Check.tape(sky, "strain 31");
        Check.throwsDue("a wrong law", IllegalArgumentException.class, () -> sky.law());
        Check.due("fault of the law", sky.fault(), 7);
        wrong(sky, "x", 0);
        Check.due("a right law", Check.law(sky, "hold"), 1);
        Check.due("no fault then", sky.fault(), -1);
        wrong(sky, "pin", 3);
        Check.due("a right sky", sky.sky(), 1);
        Check.due("no fault then", sky.fault(), -1);
    }

    private static void fullTapes() {
        Check.holds(6, "or the text's length, if more must come");
        wrong(" ".repeat(396) + "pin ", 400);
        wrong(" ".repeat(397) + "pin", 400);
        wrong("pin 3" + " ".repeat(394) + ";", 400);
        wrong(" ".repeat(399) + ";", 399);
        wrong("pin 3" + " ".repeat(394) + "x", 399);
        right("pin 3" + " ".repeat(390) + ";pin4", "pins", sky -> sky.count(7), Check.set(3, 4));
    }

    private static void usesTheTapeUp() {
        Check.holds(4, "Uses the TAPE up");
        PinnedSky sky = new PinnedSky();
        Check.tape(sky, "pin 3");
        sky.sky();
        Check.due("behind a right text", State.bytes(sky), 0);
        wrong(sky, "pin 4;x", 6);
        Check.due("behind a wrong text", State.bytes(sky), 0);
        wrong(sky, " ".repeat(399) + "x", 399);
        Check.due("behind a full tape", State.bytes(sky), 0);
        Check.due("it was not read twice", sky.sky(), 2);
    }
}
