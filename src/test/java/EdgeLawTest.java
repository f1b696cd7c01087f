/** Edges of promises 5, 6 and 9: the law's text, its first wrong byte, and where what it says begins and ends. */
public final class EdgeLawTest {
    /** "day > 9998" with numbers of three digits. */
    private static final String LAST_DAY = "day>999+999+999+999+999+999+999+999+999+999+8";

    public static void main(String[] args) {
        linesUpTo12();
        amounts();
        numbers();
        depth();
        emptyLaw();
        noLaw();
        oneInPlaceOfAnother();
        blanksAndWords();
        moreMustCome();
        cannotStand();
        wrongLawStaysAway();
        comparisons();
        andOrNot();
        partsOfAPlace();
        gapsEitherSide();
        daysOfTheLaw();
        sumsOfLines();
        pinsAlone();
        holdsBelow60();
        fullTape();
        usesTheTapeUp();
        Check.finish("EdgeLawTest");
    }

    private static void wrong(String text, int fault) {
        wrong(new PinnedSky(), text, fault);
    }

    private static void wrong(PinnedSky sky, String text, int fault) {
        Check.tape(sky, text);
        Check.throwsDue("law of '" + text + "'", IllegalArgumentException.class, () -> sky.law());
        Check.due("fault of '" + text + "'", sky.fault(), fault);
    }

    private static void right(String text, int lines) {
        PinnedSky sky = new PinnedSky();
        Check.tape(sky, text);
        Check.due("law of '" + text + "'", Check.outcome(() -> sky.law()), "" + lines);
        Check.due("fault of '" + text + "'", sky.fault(), -1);
        Check.due("lines of '" + text + "'", sky.count(2), lines);
    }

    /** Whether a condition holds at a place of a sky: its strain, told by that condition alone, is 1 more. */
    private static boolean isSo(PinnedSky sky, String condition, int place) {
        Check.law(sky, "strain 1 if " + condition);
        return sky.place(place, 6) - sky.place(place, 2) == 1;
    }

    private static void linesUpTo12() {
        Check.holds(5, "LINE { ; LINE }, at most 12");
        right("hold", 1);
        right("hold" + ";hold".repeat(10), 11);
        right("hold" + ";hold".repeat(11), 12);
        right("hold" + " ; rust 1".repeat(11) + " ", 12);
        Check.holds(5, "of a LINE, a PINNER too many, the first word");
        wrong("hold" + ";hold".repeat(12), 60);
        wrong("hold" + ";hold".repeat(11) + " ;  strain 31", 63);
        wrong("hold" + ";hold".repeat(11) + ";hold;x", 60);
        Check.holds(5, "or the text's length, if more must come");
        wrong("hold" + ";hold".repeat(11) + ";", 60);
        wrong("hold" + ";hold".repeat(11) + "; ", 61);
        wrong("hold" + ";hold".repeat(10) + ";", 55);
    }

    private static void amounts() {
        Check.holds(5, "N 0 to 30");
        right("strain 0", 1);
        right("strain 30", 1);
        right("strain 030", 1);
        wrong("strain 31", 7);
        wrong("strain 999", 7);
        right("rust 0", 1);
        right("rust 30", 1);
        wrong("rust 31", 5);
        wrong("rust -1", 5);
        PinnedSky sky = Check.sky("pin 3", "strain 0;strain 30 if pinned;rust 30;rust 0");
        Check.due("strain by 0 and 30", sky.place(3, 6), 30);
        Check.due("strain by 0", sky.place(4, 6), 0);
        Check.due("rusts by 30 and 0", sky.rusts(3), 30);
    }

    private static void numbers() {
        Check.holds(5, "All numbers are of 1 to 3 digits");
        wrong("strain 0030", 7);
        wrong("rust 0001", 5);
        right("hold if 0<999", 1);
        right("hold if 000<009", 1);
        wrong("hold if 1000>1", 8);
        wrong("hold if 1<1000", 10);
        wrong("hold if 1<0001", 10);
        wrong("hold if 1+0000<1", 10);
        wrong("hold if 1<4294967297", 10);
        wrong("hold if 1<" + "0".repeat(300), 10);
        PinnedSky sky = new PinnedSky();
        Check.due("999 is 999", isSo(sky, "999<999+1 and 998<999 and not 999<999", 0), true);
        Check.due("a sum above 999", isSo(sky, "999+999+999>999+999+998", 0), true);
    }

    private static void depth() {
        Check.holds(5, "( and not within one another at most 6 deep");
        right("hold if " + "(".repeat(6) + "pinned" + ")".repeat(6), 1);
        right("hold if " + "not ".repeat(6) + "pinned", 1);
        right("hold if not (not (not (pinned)))", 1);
        right("hold if (not (not (not 1<2)))", 1);
        right("hold if (((((not pinned)))))", 1);
        Check.holds(5, "the ( or not that is a 7th one deep");
        wrong("hold if " + "(".repeat(7) + "pinned" + ")".repeat(7), 14);
        wrong("hold if " + "not ".repeat(7) + "pinned", 32);
        wrong("hold if not (not (not (not pinned)))", 23);
        wrong("hold if ((((((not pinned))))))", 14);
        wrong("hold if not not not not not not (pinned)", 32);
        wrong("hold if ((((((pinned and (pinned)))))))", 25);
        wrong("hold if ((((((pinned or not pinned))))))", 24);
        wrong("hold if (((((((", 14);
        Check.holds(5, "( and not within one another at most 6 deep");
        String six = "((((((pinned))))))";
        right("hold if " + six + " or " + six + " and not " + "(".repeat(5) + "pinned" + ")".repeat(5), 1);
        right("hold if not not not not not not pinned and not not not not not not pinned", 1);
        right("hold if " + six + ";hold if " + six, 2);
        wrong("hold if " + six + " and (" + six + ")", 37);
        PinnedSky sky = Check.sky("pin 3");
        Check.due("six times not", isSo(sky, "not not not not not not pinned", 3), true);
        Check.due("five times not", isSo(sky, "not not not not not pinned", 3), false);
        // at each of seven depths an "or" and an "and" wait
        String deep = "1>2 or 1<2 and (".repeat(6) + "1>2 or 1<2 and pinned" + ")".repeat(6);
        Check.due("what waits six deep", isSo(sky, deep, 3), true);
        Check.due("what waits six deep, without a pin", isSo(sky, deep, 4), false);
    }

    private static void emptyLaw() {
        Check.holds(5, "A text that is empty, or blanks alone, has no LINE.");
        right("", 0);
        right("   ", 0);
        right(" ".repeat(400), 0);
        PinnedSky sky = Check.sky("pin 3", "");
        Check.due("rusts by a text without a line", sky.rusts(3), 0);
        Check.due("strain by it", sky.place(3, 6), 0);
        Check.due("it holds below 60", sky.held(), Check.set(3));
        Check.due("it never gives", sky.gives(false), -1);
    }

    private static void noLaw() {
        Check.holds(9, "RUSTS by: the sum of N of all rust LINES, 1 without a text (PINS alone).");
        PinnedSky sky = Check.sky("pin 3;pin 15 rust 99");
        Check.due("without a law", sky.rusts(3), 1);
        Check.due("at rust 99 too", sky.rusts(15), 1);
        Check.due("without a pin", sky.rusts(4), 0);
        Check.due("no law", sky.count(2), -1);
        Check.law(sky, "strain 5");
        Check.due("by a law without rust lines", sky.rusts(3), 0);
        Check.law(sky, "rust 5 if place<3");
        Check.due("by a rust line that does not hold", sky.rusts(3), 0);
        Check.law(sky, "rust 5;rust 7 if place>3;rust 11 if place<4");
        Check.due("by two that hold", sky.rusts(3), 16);
        Check.due("by two others that hold", sky.rusts(15), 12);
        PinnedSky gaps = Check.sky("pin 3;pin 5;pin 15;bare 14", "rust 4 if gap<3;rust 9 if gap>9");
        Check.due("by a gap of 2", gaps.rusts(5), 4);
        Check.due("by a gap of 10", gaps.rusts(15), 9);
        gaps.pull(5);
        Check.due("by a gap of 12", gaps.rusts(3), 9);
        Check.holds(9, "What the PIN of a PLACE RUSTS by now (0 without).");
        Check.due("without a pin", sky.rusts(4), 0);
        Check.due("at place 0", sky.rusts(0), 0);
        Check.throwsDue("rusts -1", IndexOutOfBoundsException.class, () -> sky.rusts(-1));
        Check.throwsDue("rusts 16", IndexOutOfBoundsException.class, () -> sky.rusts(16));
    }

    private static void oneInPlaceOfAnother() {
        Check.holds(5, "THE LAW (a text, in place of the one before)");
        PinnedSky sky = Check.sky("pin 3 rust 70;pin 4", "strain 9;rust 9;hold");
        Check.due("three lines", sky.count(2), 3);
        Check.due("one line", Check.law(sky, "strain 2"), 1);
        Check.due("lines", sky.count(2), 1);
        Check.due("strain", sky.place(4, 6), 2);
        Check.due("no rust line", sky.rusts(4), 0);
        Check.due("no hold line", sky.held(), Check.set(4));
        Check.due("an empty one", sky.law(), 0);
        Check.due("strain", sky.place(4, 6), 0);
        Check.due("lines", sky.count(2), 0);
        Check.due("laws are not counted", sky.count(1), 1);
        for (int laws = 0; laws < 13; laws++) {
            Check.due("law " + laws, Check.law(sky, "hold"), 1);
        }
    }

    private static void blanksAndWords() {
        Check.holds(5, "between all there may be blanks (32), also ahead and behind");
        right("  strain  3  if  (  gap  +  1  <  3  )  and  not  pinned  ;  hold  ", 2);
        right("strain3if(gap+1<3)and not pinned or(1<2);hold if(pinned)or(laddered)", 2);
        right("hold if 1<2and 2<3or 3<4", 1);
        for (int sign : new int[] {0, 9, 10, 13, 31, 33, 128, 160, 255}) {
            wrong("strain" + (char) sign + "3", 6);
            wrong("hold if gap " + (char) sign + "<3", 12);
            wrong("hold" + (char) sign, 4);
        }
        Check.holds(5, "Words are as long as a to z go on");
        wrong("holds", 0);
        wrong("holdif pinned", 0);
        wrong("hold ifpinned", 5);
        wrong("hold if notpinned", 8);
        wrong("hold if pinnedand laddered", 8);
        wrong("hold if pinned andladdered", 15);
        wrong("hold if gaps<3", 8);
        wrong("hold if pin", 8);
        wrong("hold if ladder", 8);
        wrong("Hold", 0);
        wrong("hold If pinned", 5);
        wrong("hold if Pinned", 8);
        wrong("hold`", 4);
        wrong("hold{", 4);
        wrong("hold if gap</", 12);
        wrong("hold if gap<:", 12);
        Check.holds(5, "a word that is none");
        for (String word : new String[] {"strain", "rust", "hold"}) {
            Misspelt.each(word, other -> wrong(other + " 3", 0));
        }
        Misspelt.each("if", other -> wrong("hold " + other + " pinned", 5));
        for (String word : new String[] {"pinned", "laddered", "not"}) {
            Misspelt.each(word, other -> wrong("hold if " + other + " pinned", 8));
        }
        for (String word : new String[] {"place", "tree", "rust", "ground", "gap", "day"}) {
            Misspelt.each(word, other -> wrong("hold if " + other + "<3", 8));
            Misspelt.each(word, other -> wrong("hold if 3<" + other, 10));
        }
        Misspelt.each("and", other -> wrong("hold if pinned " + other + " pinned", 15));
        Misspelt.each("or", other -> wrong("hold if pinned " + other + " pinned", 15));
        wrong("tax 3", 0);
        wrong("pin 3", 0);
        wrong("need 3", 0);
        wrong("if pinned", 0);
        wrong("hold if height<3", 8);
        wrong("hold if gap<need", 12);
        wrong("hold if gap<pinned", 12);
        wrong("hold if gap+laddered<3", 12);
        wrong("hold if strain<3", 8);
    }

    private static void moreMustCome() {
        Check.holds(6, "or the text's length, if more must come");
        String[] begun = {"strain", "rust", "hold;", "strain 3 if", "hold if", "hold if not", "hold if (",
            "hold if (pinned", "hold if (pinned or", "hold if pinned and", "hold if pinned or", "hold if gap",
            "hold if gap<", "hold if gap>", "hold if gap+", "hold if gap<3+", "hold if 3", "hold if (gap<3",
            "hold if not not", "hold if ((pinned)", "hold if gap+3"};
        for (String text : begun) {
            wrong(text, text.length());
            wrong(text + "  ", text.length() + 2);
            wrong("  " + text, text.length() + 2);
            if (!text.endsWith(";")) {
                wrong(text + ";hold", text.length());
            }
        }
    }

    private static void cannotStand() {
        Check.holds(6, "the begin of the first thing that cannot stand there");
        wrong(";", 0);
        wrong(" ;hold", 1);
        wrong("hold;;hold", 5);
        wrong("3", 0);
        wrong("hold 3", 5);
        wrong("hold hold", 5);
        wrong("hold pinned", 5);
        wrong("hold if if pinned", 8);
        wrong("strain if pinned", 7);
        wrong("strain strain 3", 7);
        wrong("strain 3 4", 9);
        wrong("strain 3 pinned", 9);
        wrong("strain 3 and pinned", 9);
        wrong("hold if ()", 9);
        wrong("hold if )", 8);
        wrong("hold if pinned)", 14);
        wrong("hold if (pinned))", 16);
        wrong("hold if (pinned;hold)", 15);
        wrong("hold if and pinned", 8);
        wrong("hold if or pinned", 8);
        wrong("hold if pinned and and pinned", 19);
        wrong("hold if pinned and or pinned", 19);
        wrong("hold if pinned pinned", 15);
        wrong("hold if pinned not pinned", 15);
        wrong("hold if pinned 3", 15);
        wrong("hold if pinned<3", 14);
        wrong("hold if pinned+1<3", 14);
        wrong("hold if not 3", 13);
        wrong("hold if gap and pinned", 12);
        wrong("hold if gap=3", 11);
        wrong("hold if gap<>3", 12);
        wrong("hold if gap<=3", 12);
        wrong("hold if gap<3<4", 13);
        wrong("hold if gap<3>4", 13);
        wrong("hold if gap<3 gap>4", 14);
        wrong("hold if gap 3<4", 12);
        wrong("hold if gap++1<3", 12);
        wrong("hold if +gap<3", 8);
        wrong("hold if <3", 8);
        wrong("hold if (gap)<3", 12);
        wrong("hold if (gap+1)<3", 14);
        wrong("hold if gap<(3)", 12);
        wrong("hold if gap<not pinned", 12);
        wrong("hold,hold", 4);
        wrong("hold if pinned,hold", 14);
    }

    private static void wrongLawStaysAway() {
        Check.holds(5, "Of a wrong text nothing stays.");
        for (String text : new String[] {"strain 30;rust 30;x", "hold;hold if", "x", "strain 7 if gap<3;rust 31"}) {
            PinnedSky sky = lawful();
            Check.tape(sky, text);
            Check.throwsDue("law of " + text, IllegalArgumentException.class, () -> sky.law());
            PinnedSky twin = lawful();
            Check.tape(twin, " ".repeat(sky.fault()) + "x");
            Check.throwsDue("law of blanks and x", IllegalArgumentException.class, () -> twin.law());
            Check.due("all behind the law of " + text, State.toTheEnd(sky), State.toTheEnd(twin));
        }
        PinnedSky none = Check.sky("pin 3");
        wrong(none, "hold;x", 5);
        Check.due("no law yet", none.count(2), -1);
        Check.due("rusts without one", none.rusts(3), 1);
    }

    private static PinnedSky lawful() {
        PinnedSky sky = Check.sky("pin 3 rust 66;pin 4", "strain 2 if gap<2;rust 3;hold if place<4");
        sky.height(11);
        sky.image();
        sky.days(1);
        return sky;
    }

    private static void comparisons() {
        Check.holds(5, "SUM < SUM | SUM > SUM");
        PinnedSky sky = new PinnedSky();
        Check.due("2<3", isSo(sky, "2<3", 0), true);
        Check.due("3<3", isSo(sky, "3<3", 0), false);
        Check.due("4<3", isSo(sky, "4<3", 0), false);
        Check.due("2>3", isSo(sky, "2>3", 0), false);
        Check.due("3>3", isSo(sky, "3>3", 0), false);
        Check.due("4>3", isSo(sky, "4>3", 0), true);
        Check.due("0<0", isSo(sky, "0<0", 0), false);
        Check.due("1+1+1<3", isSo(sky, "1+1+1<3", 0), false);
        Check.due("1+1<3", isSo(sky, "1+1<3", 0), true);
        Check.due("3>1+1", isSo(sky, "3>1+1", 0), true);
        Check.due("two comparisons, each with sums of its own", isSo(sky, "5<6 and 1<2", 0), true);
        Check.due("the second by itself", isSo(sky, "5<6 and 2<1", 0), false);
    }

    private static void andOrNot() {
        Check.holds(5, "C: ALL { or ALL }; ALL: ATOM { and ATOM }");
        PinnedSky sky = new PinnedSky();
        for (int bits = 0; bits < 8; bits++) {
            boolean a = (bits & 4) != 0;
            boolean b = (bits & 2) != 0;
            boolean c = (bits & 1) != 0;
            String x = a ? "1<2" : "2<1";
            String y = b ? "1<2" : "2<1";
            String z = c ? "1<2" : "2<1";
            Check.due(bits + ": and, or", isSo(sky, x + " and " + y + " or " + z, 0), a && b || c);
            Check.due(bits + ": or, and", isSo(sky, x + " or " + y + " and " + z, 0), a || b && c);
            Check.due(bits + ": or, or", isSo(sky, x + " or " + y + " or " + z, 0), a || b || c);
            Check.due(bits + ": and, and", isSo(sky, x + " and " + y + " and " + z, 0), a && b && c);
            Check.due(bits + ": ( or ) and", isSo(sky, "(" + x + " or " + y + ") and " + z, 0), (a || b) && c);
            Check.due(bits + ": not, and", isSo(sky, "not " + x + " and " + y + " or not " + z, 0), !a && b || !c);
            Check.due(bits + ": not ( and )", isSo(sky, "not (" + x + " and " + y + ") and " + z, 0), !(a && b) && c);
        }
    }

    private static void partsOfAPlace() {
        Check.holds(5, "Of a PLACE: rust: RUST of its PIN (0 without)");
        PinnedSky sky = Check.sky("pin 3 rust 99;pin 4;tree 3 9;ground 3 9;bare 3;bare 15");
        Check.due("rust 99", isSo(sky, "rust>98 and rust<100", 3), true);
        Check.due("rust 0 of a pin", isSo(sky, "rust<1", 4), true);
        Check.due("rust without a pin", isSo(sky, "rust<1", 5), true);
        sky.pull(3);
        Check.due("rust of a pulled one", isSo(sky, "rust<1", 3), true);
        Check.due("tree 9", isSo(sky, "tree>8 and tree<10", 3), true);
        Check.due("tree 0", isSo(sky, "tree<1", 4), true);
        Check.due("ground 9", isSo(sky, "ground>8 and ground<10", 3), true);
        Check.due("ground 0", isSo(sky, "ground<1", 4), true);
        Check.due("place 0", isSo(sky, "place<1", 0), true);
        Check.due("place 15", isSo(sky, "place>14 and place<16", 15), true);
        Check.holds(5, "pinned: it has a PIN; laddered: it has a LADDER");
        Check.due("pinned", isSo(sky, "pinned", 4), true);
        Check.due("pinned without a pin", isSo(sky, "pinned", 3), false);
        pinnedInEachKindOfLine();
        Check.due("laddered", isSo(sky, "laddered", 0), true);
        Check.due("laddered, bare", isSo(sky, "laddered", 15), false);
        Check.due("laddered, bare too", isSo(sky, "laddered", 3), false);
    }

    /** A line that asks "pinned" is asked of pins that are there, and of new ones that only might be. */
    private static void pinnedInEachKindOfLine() {
        Check.due("rust if pinned", Check.sky("pin 3", "rust 5 if pinned").rusts(3), 5);
        Check.due("rust if not pinned", Check.sky("pin 3", "rust 5 if not pinned").rusts(3), 0);
        Check.due("hold if pinned", Check.sky("pin 3 rust 99", "hold if pinned").held(), Check.set(3));
        Check.due("hold if not pinned", Check.sky("pin 3 rust 99", "hold if not pinned").held(), 0);
        String strain = "strain 30 if pinned;strain 30 if pinned";
        Check.due("strain if pinned", Check.sky("pin 3", strain).held(), 0);
        Check.due("strain if not pinned", Check.sky("pin 3", strain.replace("pinned", "not pinned")).held(), Check.set(3));
        Check.due("strain if pinned of a new one", Check.sky("need 3 1", strain).fewest(8), -1);
        Check.due("gone by strain if pinned", Check.sky("pin 3", strain).days(1), 1);
    }

    private static int gap(PinnedSky sky, int place) {
        for (int gap = 0; gap <= 17; gap++) {
            if (isSo(sky, "gap<" + (gap + 1), place)) {
                return gap;
            }
        }
        return -1;
    }

    private static void gapsEitherSide() {
        Check.holds(5, "gap: how far the next other PIN is (either side; 16 without another)");
        Check.due("no pin", gap(new PinnedSky(), 7), 16);
        Check.due("the only pin", gap(Check.sky("pin 7"), 7), 16);
        Check.due("beside the only pin", gap(Check.sky("pin 7"), 8), 1);
        Check.due("15 up", gap(Check.sky("pin 0;pin 15"), 0), 15);
        Check.due("15 down", gap(Check.sky("pin 0;pin 15"), 15), 15);
        Check.due("15 from no pin", gap(Check.sky("pin 15"), 0), 15);
        Check.due("down", gap(Check.sky("pin 3;pin 9"), 5), 2);
        Check.due("up", gap(Check.sky("pin 3;pin 9"), 7), 2);
        Check.due("both", gap(Check.sky("pin 3;pin 9"), 6), 3);
        Check.due("from a pin", gap(Check.sky("pin 3;pin 9;pin 4"), 9), 5);
        Check.due("its own pin is no other", gap(Check.sky("pin 3;pin 4"), 3), 1);
        Check.due("pins that do not hold count", gap(Check.sky("pin 3 rust 99;pin 9"), 4), 1);
    }

    private static void daysOfTheLaw() {
        Check.holds(5, "DAY: 0 at first.");
        PinnedSky sky = new PinnedSky();
        Check.due("day 0", isSo(sky, "day<1", 0), true);
        sky.days(1);
        Check.due("day 1", isSo(sky, "day>0 and day<2", 0), true);
        Check.holds(5, "DAY is 1 more (9999 at most)");
        for (int i = 0; i < 166; i++) {
            sky.days(60);
        }
        sky.days(37);
        Check.due("day 9998", isSo(sky, LAST_DAY, 0), false);
        sky.days(1);
        Check.due("day 9999", isSo(sky, LAST_DAY, 0), true);
        sky.days(60);
        Check.due("day 9999 yet", isSo(sky, LAST_DAY + " and not day>999+999+999+999+999+999+999+999+999+999+9", 0), true);
    }

    private static void sumsOfLines() {
        Check.holds(5, "STRAIN: TREE and the sum of N of all strain LINES that hold.");
        PinnedSky sky = Check.sky("tree 3 9;pin 3", "strain 30" + ";strain 30".repeat(11));
        Check.due("tree and 12 times 30", sky.place(3, 6), 369);
        Check.due("12 times 30", sky.place(4, 6), 360);
        Check.law(sky, "strain 1 if place<3;strain 2 if place<4;strain 4 if place>2;strain 8 if place>3");
        Check.due("lines that hold at 3", sky.place(3, 6), 9 + 6);
        Check.due("lines that hold at 2", sky.place(2, 6), 3);
        Check.due("lines that hold at 4", sky.place(4, 6), 12);
        Check.law(sky, "rust 30" + ";rust 30".repeat(11));
        Check.due("rusts by 12 times 30", sky.rusts(3), 360);
        Check.due("strain without strain lines", sky.place(3, 6), 9);
    }

    private static void pinsAlone() {
        Check.holds(5, "or some hold LINE holds (PINS alone)");
        PinnedSky sky = Check.sky("pin 3", "hold;rust 5");
        Check.due("held", sky.held(), Check.set(3));
        Check.due("a place without a pin", sky.place(4, 7), 0);
        Check.due("what it rusts by", sky.rusts(4), 0);
        sky.days(60);
        Check.due("it holds at rust 99", sky.place(3, 7), 1);
        Check.due("rust", sky.place(3, 5), 99);
        Check.due("no rust without a pin", sky.place(4, 5), 0);
    }

    private static void holdsBelow60() {
        Check.holds(5, "HOLDS: RUST and STRAIN together are below 60");
        Check.due("rust 59", Check.sky("pin 3 rust 59").held(), Check.set(3));
        Check.due("rust 60", Check.sky("pin 3 rust 60").held(), 0);
        Check.due("rust 50 and tree 9", Check.sky("pin 3 rust 50;tree 3 9").held(), Check.set(3));
        Check.due("rust 51 and tree 9", Check.sky("pin 3 rust 51;tree 3 9").held(), 0);
        Check.due("strain 59", Check.sky("pin 3", "strain 30;strain 29").held(), Check.set(3));
        Check.due("strain 60", Check.sky("pin 3", "strain 30;strain 30").held(), 0);
        Check.due("a hold line", Check.sky("pin 3 rust 99", "strain 30;hold if rust>98").held(), Check.set(3));
        Check.due("a hold line that does not hold", Check.sky("pin 3 rust 60", "hold if rust>60").held(), 0);
        Check.due("some of two", Check.sky("pin 3 rust 60", "hold if rust>60;hold if rust<61").held(), Check.set(3));
        Check.due("below 60 without one", Check.sky("pin 3 rust 59", "hold if rust>60").held(), Check.set(3));
    }

    private static void fullTape() {
        Check.holds(5, "or the text's length, if more must come");
        PinnedSky sky = Check.sky("pin 3");
        // as many things as 400 bytes can tell: 12 bytes, 77 times five, and three more
        String text = "hold if 2<1 " + "or2<1".repeat(77) + "or ";
        Check.due("its length", text.length(), 400);
        wrong(sky, text, 400);
        String last = "strain 1if2<1" + "or2<1".repeat(75) + "   or pinned";
        Check.due("its length", last.length(), 400);
        Check.due("law", Check.law(sky, last), 1);
        Check.due("its last word at 3", sky.place(3, 6), 1);
        Check.due("its last word at 4", sky.place(4, 6), 0);
        String sum = "strain 1if1>" + "0+".repeat(193) + "1 ";
        Check.due("its length", sum.length(), 400);
        Check.due("a long sum", Check.law(sky, sum), 1);
        Check.due("1 is not above 1", sky.place(3, 6), 0);
        wrong(sky, "hold" + " ".repeat(395) + "x", 399);
        wrong(sky, "hold" + " ".repeat(394) + "if", 400);
    }

    private static void usesTheTapeUp() {
        Check.holds(5, "Uses the TAPE up");
        PinnedSky sky = new PinnedSky();
        Check.law(sky, "hold;hold");
        Check.due("behind a right law", State.bytes(sky), 0);
        wrong(sky, "hold;x", 5);
        Check.due("behind a wrong law", State.bytes(sky), 0);
        Check.due("an empty one is read then", sky.law(), 0);
        Check.holds(5, "how many LINES");
        Check.due("two", Check.law(sky, "hold;hold"), 2);
        Check.due("one", Check.law(sky, "hold if pinned"), 1);
    }
}
