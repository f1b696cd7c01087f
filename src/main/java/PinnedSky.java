import java.util.Arrays;
import java.util.NoSuchElementException;

/**
 * A sky that is pinned along its hem. What each call promises is told in the project's document;
 * words in capitals there are the names of classes, fields and methods here.
 */
public final class PinnedSky {
    public static final int NONE = -1;

    private static final int PLACES = 16;
    private static final int EVERY_PLACE = 65535;
    private static final int LAST_PLACE = 15;
    private static final int MOST_HEIGHT = 40;
    private static final int MOST_TIGHT = 9;
    private static final int MOST_DAYS = 60;
    private static final int MOST_DAYS_BEFORE = 20;
    private static final int MOST_DAYS_ODDS = 6;
    private static final int MOST_HANDED = 30;
    private static final int MOST_TEXTS = 12;
    private static final int MOST_NEW_PINS = 4;
    private static final int MOST_SEEN_BYTES = 40;
    private static final int SEEDS_OF_SPAN = 6;
    /** None, each one and each two of 16 pins. */
    private static final int MOST_FITS = 137;
    /** Each place, or none of them. */
    private static final int CHOICES = 17;

    private final Tape tape = new Tape();
    private final Judge judge = new Judge();
    private final SkyText skyText = new SkyText();
    private final LawText lawText = new LawText();
    private final Past past = new Past();
    private final Rota rota = new Rota();
    private final Sky now = new Sky();
    /** Days that only might be go over this sky, so that nothing of them stays. */
    private final Sky draft = new Sky();
    private final Sky keptSky = new Sky();
    private final Law keptLaw = new Law();
    private boolean imageKept;
    private int wrongByte = NONE;
    private final int[] fits = new int[MOST_FITS];
    private final int[] parts = new int[MOST_HEIGHT + 1];
    private final int[] game = new int[CHOICES * CHOICES];

    public PinnedSky() {
    }

    public int feed(int a, int b, int c, int d, int e) {
        if (!tape.hasRoom()) {
            return NONE;
        }
        tape.add(a);
        tape.add(b);
        tape.add(c);
        tape.add(d);
        tape.add(e);
        return tape.size;
    }

    public boolean end(int n) {
        return tape.cut(n);
    }

    public int sky() throws IllegalArgumentException, UnsupportedOperationException {
        skyText.draft.become(now);
        wrongByte = skyText.read(tape, SkyText.MOST_LINES);
        if (wrongByte != NONE) {
            throw new IllegalArgumentException();
        }
        if (now.texts >= MOST_TEXTS) {
            throw new UnsupportedOperationException();
        }
        now.become(skyText.draft);
        now.texts++;
        past.forget();
        return now.texts;
    }

    public int law() throws IllegalArgumentException {
        lawText.draft.clear();
        wrongByte = lawText.read(tape, Law.MOST_LINES);
        if (wrongByte != NONE) {
            throw new IllegalArgumentException();
        }
        judge.law.become(lawText.draft);
        past.forget();
        return judge.law.lines;
    }

    public int fault() {
        return wrongByte;
    }

    public int place(int place, int what) throws IndexOutOfBoundsException, NoSuchElementException {
        checkPlace(place);
        switch (what) {
            case 0:
                return now.ground[place];
            case 1:
                return now.need[place];
            case 2:
                return now.tree[place];
            case 3:
                return now.hasLadder(place) ? 1 : 0;
            case 4:
                return now.hasPin(place) ? 1 : 0;
            case 5:
                return now.rust[place];
            case 6:
                return judge.strainAt(now, place);
            case 7:
                return has(judge.holding(now), place) ? 1 : 0;
            case 8:
                return now.skyAt(place, judge.holding(now), now.height, now.tight);
            case 9:
                return has(judge.standing(now), place) ? 1 : 0;
            default:
                throw new NoSuchElementException();
        }
    }

    public int pinner(int pinner, int what) throws IndexOutOfBoundsException, NoSuchElementException {
        checkPinner(pinner);
        switch (what) {
            case 0:
                return now.crew.at[pinner];
            case 1:
                return now.crew.pace[pinner];
            case 2:
                return now.crew.brass[pinner];
            default:
                throw new NoSuchElementException();
        }
    }

    public int rusts(int place) throws IndexOutOfBoundsException {
        checkPlace(place);
        return judge.rustsBy(now, place);
    }

    public int pin(int pinner) throws IndexOutOfBoundsException, IllegalStateException {
        checkPinner(pinner);
        int place = now.crew.at[pinner];
        if (!now.hasLadder(place) || now.hasPin(place) || now.crew.brass[pinner] < 1) {
            throw new IllegalStateException();
        }
        past.remember(now);
        now.crew.brass[pinner]--;
        now.setPin(place, 0);
        now.log.add(now.day, place, Log.PINNED, 0);
        return place;
    }

    public int change(int pinner) throws IndexOutOfBoundsException, IllegalStateException {
        checkPinner(pinner);
        int place = now.crew.at[pinner];
        if (!now.hasLadder(place) || !now.hasPin(place) || now.crew.brass[pinner] < 1) {
            throw new IllegalStateException();
        }
        past.remember(now);
        int rust = now.rust[place];
        now.crew.brass[pinner]--;
        now.setPin(place, 0);
        now.log.add(now.day, place, Log.CHANGED, rust);
        return rust;
    }

    public int go(int pinner, int place) throws IndexOutOfBoundsException, IllegalArgumentException {
        checkPinner(pinner);
        checkPlace(place);
        int steps = Math.abs(now.crew.at[pinner] - place);
        if (steps > now.crew.pace[pinner]) {
            throw new IllegalArgumentException();
        }
        past.remember(now);
        now.crew.at[pinner] = place;
        return steps;
    }

    public int pull(int place) throws IndexOutOfBoundsException, IllegalStateException {
        checkPlace(place);
        if (!now.hasPin(place)) {
            throw new IllegalStateException();
        }
        past.remember(now);
        int rust = now.rust[place];
        now.takePin(place);
        now.log.add(now.day, place, Log.PULLED, rust);
        now.stock = Math.min(now.stock + 1, Sky.MOST_STOCK);
        return rust;
    }

    public int hand(int pinner, int n)
            throws IndexOutOfBoundsException, IllegalArgumentException, IllegalStateException {
        checkPinner(pinner);
        checkNumber(n, 1, MOST_HANDED);
        if (now.stock < n || now.crew.brass[pinner] + n > Crew.MOST_BRASS) {
            throw new IllegalStateException();
        }
        past.remember(now);
        now.stock -= n;
        now.crew.brass[pinner] += n;
        return now.crew.brass[pinner];
    }

    public int fell(int place) throws IndexOutOfBoundsException {
        checkPlace(place);
        past.remember(now);
        int tree = now.tree[place];
        now.tree[place] = 0;
        return tree;
    }

    public int height(int n) throws IllegalArgumentException {
        checkNumber(n, 1, MOST_HEIGHT);
        past.remember(now);
        int height = now.height;
        now.height = n;
        return height;
    }

    public int days(int n) throws IllegalArgumentException {
        checkNumber(n, 1, MOST_DAYS);
        past.remember(now);
        return judge.daysMore(now, n, true);
    }

    public int low() {
        return EVERY_PLACE & ~judge.standing(now);
    }

    public int held() {
        return judge.holding(now);
    }

    public int gives(boolean which) {
        draft.become(now);
        for (int day = 1; day <= MOST_DAYS; day++) {
            int lost = judge.dayMore(draft, false);
            if (lost != 0) {
                return which ? lost : day;
            }
        }
        return which ? 0 : NONE;
    }

    public int weakest() {
        int weakest = NONE;
        int most = NONE;
        for (int place = 0; place < PLACES; place++) {
            if (now.hasPin(place)) {
                int load = now.rust[place] + judge.strainAt(now, place);
                if (load > most) {
                    most = load;
                    weakest = place;
                }
            }
        }
        return weakest;
    }

    public int key() {
        int stand = Integer.bitCount(judge.standing(now));
        int keys = 0;
        for (int place = 0; place < PLACES; place++) {
            if (now.hasPin(place) && Integer.bitCount(standingWithout(place)) < stand) {
                keys |= 1 << place;
            }
        }
        return keys;
    }

    public int fewest(int places) {
        int wanted = places & EVERY_PLACE;
        if ((wanted & ~judge.standing(now)) == 0) {
            return 0;
        }
        int free = now.free();
        for (int size = 1; size <= MOST_NEW_PINS; size++) {
            int pins = leastPins(size, free, wanted);
            if (pins != NONE) {
                return pins;
            }
        }
        return NONE;
    }

    public int first() {
        judge.startOver();
        int free = now.free();
        int first = NONE;
        int most = NONE;
        for (int place = 0; place < PLACES; place++) {
            if (has(free, place)) {
                int stand = Integer.bitCount(judge.standingWith(now, now.pins | 1 << place));
                if (stand > most) {
                    most = stand;
                    first = place;
                }
            }
        }
        return first;
    }

    public int spare() {
        int standing = judge.standing(now);
        int spare = 0;
        for (int place = 0; place < PLACES; place++) {
            if (now.hasPin(place) && (standing & ~standingWithout(place)) == 0) {
                spare |= 1 << place;
            }
        }
        return spare;
    }

    public int round(int pinner, int places, boolean last) throws IndexOutOfBoundsException {
        checkPinner(pinner);
        int from = now.crew.at[pinner];
        int ways = places & EVERY_PLACE | 1 << from;
        int lowest = Integer.numberOfTrailingZeros(ways);
        int highest = 31 - Integer.numberOfLeadingZeros(ways);
        int down = from - lowest;
        int up = highest - from;
        if (!last) {
            return down + up + Math.min(down, up);
        }
        return down >= up ? lowest : highest;
    }

    public int goes(int pinner) throws IndexOutOfBoundsException, IllegalArgumentException {
        tape.open();
        if (pinner != NONE) {
            checkPinner(pinner);
        }
        if (!rota.take(tape, now.crew)) {
            throw new IllegalArgumentException();
        }
        rota.settle(now.crew);
        return pinner == NONE ? rota.fewestDays : rota.best[pinner];
    }

    public int before(int n) throws IllegalArgumentException {
        checkNumber(n, 0, MOST_DAYS_BEFORE);
        int reached = 0;
        for (int place = 0; place < PLACES; place++) {
            for (int pinner = 0; pinner < now.crew.size; pinner++) {
                if (Math.abs(now.crew.at[pinner] - place) <= now.crew.pace[pinner] * n) {
                    reached |= 1 << place;
                }
            }
        }
        return reached;
    }

    public int seen(boolean sure) throws IllegalArgumentException {
        tape.open();
        if (!tellsHeights()) {
            throw new IllegalArgumentException();
        }
        int count = findFits();
        if (!sure) {
            return count;
        }
        int inAll = count == 0 ? 0 : now.pins;
        for (int i = 0; i < count; i++) {
            inAll &= fits[i];
        }
        return inAll;
    }

    public int climb() throws IllegalArgumentException {
        tape.open();
        if (!tellsHeights()) {
            throw new IllegalArgumentException();
        }
        int count = findFits();
        if (count < 2) {
            return NONE;
        }
        int climb = NONE;
        int least = MOST_FITS + 1;
        for (int place = 0; place < PLACES; place++) {
            if (now.hasLadder(place)) {
                int greatest = greatestPart(place, count);
                if (greatest < least) {
                    least = greatest;
                    climb = place;
                }
            }
        }
        return climb;
    }

    public int duke() {
        int free = now.free();
        playGame(free);
        int settled = 0;
        for (int pulled = NONE; pulled < PLACES; pulled++) {
            for (int set = NONE; set < PLACES; set++) {
                if (canChoose(now.pins, pulled) && canChoose(free, set)
                        && dukeRests(pulled, set) && guildRests(pulled, set, free)) {
                    settled++;
                }
            }
        }
        return settled;
    }

    public int pay(int n) throws IllegalArgumentException {
        checkNumber(n, 0, now.height - 1);
        int holding = judge.holding(now);
        int standing = now.standing(holding, now.height, now.tight);
        return Integer.bitCount(standing & ~now.standing(holding, now.height - n, now.tight));
    }

    public int season() {
        int holding = judge.holding(now);
        int season = 0;
        int most = NONE;
        for (int tight = 0; tight <= MOST_TIGHT; tight++) {
            int stand = Integer.bitCount(now.standing(holding, now.height, tight));
            if (stand > most) {
                most = stand;
                season = tight;
            }
        }
        return season;
    }

    public int best() {
        int holding = judge.holding(now);
        int wanted = now.standing(holding, MOST_HEIGHT, now.tight);
        for (int height = 1; height < MOST_HEIGHT; height++) {
            if ((wanted & ~now.standing(holding, height, now.tight)) == 0) {
                return height;
            }
        }
        return MOST_HEIGHT;
    }

    public int lasts() {
        int standing = judge.standing(now);
        draft.become(now);
        for (int day = 1; day <= MOST_DAYS; day++) {
            judge.dayMore(draft, false);
            if ((standing & ~judge.standing(draft)) != 0) {
                return day;
            }
        }
        return NONE;
    }

    public int stars(int from, int to) throws IndexOutOfBoundsException, IllegalArgumentException {
        checkPlace(from);
        checkPlace(to);
        if (from > to) {
            throw new IllegalArgumentException();
        }
        int upTo = (2 << to) - 1;
        int below = (1 << from) - 1;
        return Integer.bitCount(judge.holding(now) & upTo & ~below);
    }

    public int longest() {
        int holding = judge.holding(now);
        int longest = 0;
        int row = 0;
        for (int place = 0; place < PLACES; place++) {
            row = has(holding, place) ? 0 : row + 1;
            longest = Math.max(longest, row);
        }
        return longest;
    }

    public int ahead(int place, int n, boolean rust)
            throws IndexOutOfBoundsException, IllegalArgumentException {
        checkPlace(place);
        checkNumber(n, 0, MOST_DAYS);
        draft.become(now);
        judge.daysMore(draft, n, false);
        if (rust) {
            return draft.rust[place];
        }
        return draft.skyAt(place, judge.holding(draft), draft.height, draft.tight);
    }

    public int odds(int n, int k) throws IllegalArgumentException {
        checkNumber(n, 0, MOST_DAYS_ODDS);
        checkNumber(k, 0, MOST_DAYS_ODDS);
        long ways = 0;
        for (int gales = k; gales <= n; gales++) {
            ways += choices(n, gales) * power(now.gale, gales) * power(100 - now.gale, n - gales);
        }
        // what it divides by is 1 at least; the test keeps the division safe all the same
        long all = power(100, n);
        return all < 1 ? 0 : (int) (ways * 10000 / all);
    }

    public int needs(int n) throws IllegalArgumentException {
        checkNumber(n, 0, MOST_DAYS);
        draft.become(now);
        return judge.daysMore(draft, n, false);
    }

    public int trial(int n, boolean stand) throws IllegalArgumentException {
        checkNumber(n, 0, MOST_DAYS);
        draft.become(now);
        int gone = judge.daysMore(draft, n, true);
        return stand ? Integer.bitCount(judge.standing(draft)) : gone;
    }

    public int span(int n, boolean most) throws IllegalArgumentException {
        checkNumber(n, 0, MOST_DAYS);
        int fewestGone = PLACES;
        int mostGone = 0;
        for (int seed = 1; seed <= SEEDS_OF_SPAN; seed++) {
            draft.become(now);
            draft.seed = seed;
            int gone = judge.daysMore(draft, n, true);
            fewestGone = Math.min(fewestGone, gone);
            mostGone = Math.max(mostGone, gone);
        }
        return most ? mostGone : fewestGone;
    }

    public int led(int place, boolean day) throws IndexOutOfBoundsException {
        checkPlace(place);
        return day ? now.log.latestDayOf(place) : now.log.rowsOf(place);
    }

    public int log(int ago, int what) throws NoSuchElementException {
        if (what < 0 || what > Log.LAST_WHAT) {
            throw new NoSuchElementException();
        }
        return now.log.tell(ago, what);
    }

    public int seed(int n) {
        int seed = now.seed;
        now.seed = n;
        return seed;
    }

    public boolean undo() {
        return past.takeBack(now);
    }

    public void image() {
        keptSky.become(now);
        keptLaw.become(judge.law);
        imageKept = true;
    }

    public boolean back() {
        if (!imageKept) {
            return false;
        }
        now.become(keptSky);
        judge.law.become(keptLaw);
        past.forget();
        return true;
    }

    public int count(int what) {
        switch (what) {
            case 0:
                return now.crew.size;
            case 1:
                return now.texts;
            case 2:
                return judge.law.lines;
            case 3:
                return now.day;
            case 4:
                return now.height;
            case 5:
                return now.tight;
            case 6:
                return now.stock;
            case 7:
                return now.pins;
            case 8:
                return now.crew.brassOfAll();
            case 9:
                return now.gone;
            case 10:
                return now.log.size;
            case 11:
                return past.size;
            default:
                return NONE;
        }
    }

    private static void checkPlace(int place) {
        if (place < 0 || place >= PLACES) {
            throw new IndexOutOfBoundsException();
        }
    }

    private void checkPinner(int pinner) {
        if (pinner < 0 || pinner >= now.crew.size) {
            throw new IndexOutOfBoundsException();
        }
    }

    private static void checkNumber(int n, int least, int most) {
        if (n < least || n > most) {
            throw new IllegalArgumentException();
        }
    }

    private static boolean has(int set, int place) {
        return (set >>> place & 1) != 0;
    }

    /** Steps from a place to the next one of a set, either side; as many as there are places without one. */
    private static int distance(int set, int place) {
        int here = 1 << place;
        for (int steps = 0; steps < PLACES; steps++) {
            if ((set & (here << steps | here >>> steps)) != 0) {
                return steps;
            }
        }
        return PLACES;
    }

    private static int bitOf(int place) {
        return place == NONE ? 0 : 1 << place;
    }

    private int standingWithout(int place) {
        return judge.standingWith(now, now.pins & ~(1 << place));
    }

    /** Goes through all sets of a size from the least on, so that the first that does is the least. */
    private int leastPins(int size, int free, int wanted) {
        int set = (1 << size) - 1;
        for (int tries = 0; tries < EVERY_PLACE && set <= EVERY_PLACE; tries++) {
            if ((set & ~free) == 0 && (wanted & ~judge.standingWith(now, now.pins | set)) == 0) {
                return set;
            }
            set = nextOfSameSize(set);
        }
        return NONE;
    }

    /** The lowest row of ones moves its top one up, and the rest of it falls to the bottom. */
    private static int nextOfSameSize(int set) {
        int risen = set + (set & -set);
        return risen | (set ^ risen) >>> 2 + Integer.numberOfTrailingZeros(set);
    }

    private boolean tellsHeights() {
        if (tape.length > MOST_SEEN_BYTES || tape.length % 2 != 0) {
            return false;
        }
        for (int i = 0; i < tape.length; i += 2) {
            if (tape.byteAt(i) > LAST_PLACE) {
                return false;
            }
        }
        return true;
    }

    /** Keeps each set of pins that, being gone, would explain the heights on the tape: how many. */
    private int findFits() {
        judge.startOver();
        int count = 0;
        for (int one = NONE; one < PLACES; one++) {
            // none at all; or one and each from itself on, which is that one alone and each two
            int end = one == NONE ? 0 : PLACES;
            for (int other = one; other < end; other++) {
                int gone = bitOf(one) | bitOf(other);
                if ((gone & ~now.pins) == 0 && count < MOST_FITS && explains(gone)) {
                    fits[count] = gone;
                    count++;
                }
            }
        }
        return count;
    }

    private boolean explains(int gone) {
        int holding = judge.holdingWith(now, now.pins & ~gone);
        for (int i = 0; i < tape.length; i += 2) {
            int place = tape.byteAt(i);
            if (place < 0 || place > LAST_PLACE
                    || now.skyAt(place, holding, now.height, now.tight) != tape.byteAt(i + 1)) {
                return false;
            }
        }
        return true;
    }

    private int greatestPart(int place, int count) {
        Arrays.fill(parts, 0);
        int greatest = 0;
        for (int i = 0; i < count; i++) {
            int holding = judge.holdingWith(now, now.pins & ~fits[i]);
            int hangs = now.skyAt(place, holding, now.height, now.tight);
            if (hangs >= 0 && hangs <= MOST_HEIGHT) {
                parts[hangs]++;
                greatest = Math.max(greatest, parts[hangs]);
            }
        }
        return greatest;
    }

    private static boolean canChoose(int set, int place) {
        return place == NONE || has(set, place);
    }

    /** Where the game's table tells how many places stand by what the duke and the guild chose. */
    private static int pair(int pulled, int set) {
        return (pulled + 1) * CHOICES + set + 1;
    }

    private void playGame(int free) {
        judge.startOver();
        for (int pulled = NONE; pulled < PLACES; pulled++) {
            for (int set = NONE; set < PLACES; set++) {
                if (canChoose(now.pins, pulled) && canChoose(free, set)) {
                    int pins = now.pins & ~bitOf(pulled) | bitOf(set);
                    game[pair(pulled, set)] = Integer.bitCount(judge.standingWith(now, pins));
                }
            }
        }
    }

    private boolean dukeRests(int pulled, int set) {
        int stand = game[pair(pulled, set)];
        for (int other = NONE; other < PLACES; other++) {
            if (canChoose(now.pins, other) && game[pair(other, set)] < stand) {
                return false;
            }
        }
        return true;
    }

    private boolean guildRests(int pulled, int set, int free) {
        int stand = game[pair(pulled, set)];
        for (int other = NONE; other < PLACES; other++) {
            if (canChoose(free, other) && game[pair(pulled, other)] > stand) {
                return false;
            }
        }
        return true;
    }

    private static long power(long base, int times) {
        long power = 1;
        for (int i = 0; i < times; i++) {
            power *= base;
        }
        return power;
    }

    /** In how many ways so many of n can be chosen. */
    private static long choices(int n, int many) {
        long ways = 1;
        for (int i = 1; i <= many; i++) {
            ways = ways * (n - i + 1) / i;
        }
        return ways;
    }

    /** The bytes that were fed, and the reading of those that a call uses up. */
    private static final class Tape {
        private static final int MOST_BYTES = 400;
        private static final int BYTES_A_FEED = 20;
        private static final int BYTES_A_NUMBER = 4;
        private static final int MOST_DIGITS = 3;

        private final byte[] bytes = new byte[MOST_BYTES];
        private int size;
        /** How many bytes the call that reads has used up. */
        private int length;
        private int at;
        /** Where the latest thing that was read begins. */
        private int begin;
        private int wrong = NONE;

        private boolean hasRoom() {
            return size + BYTES_A_FEED <= MOST_BYTES;
        }

        private void add(int number) {
            if (size + BYTES_A_NUMBER > MOST_BYTES) {
                return;
            }
            bytes[size] = (byte) (number >>> 24);
            bytes[size + 1] = (byte) (number >>> 16);
            bytes[size + 2] = (byte) (number >>> 8);
            bytes[size + 3] = (byte) number;
            size += BYTES_A_NUMBER;
        }

        private boolean cut(int n) {
            if (n < 0 || n > size) {
                return false;
            }
            size = n;
            return true;
        }

        /** The tape is used up from here on, whatever the call comes to. */
        private void open() {
            length = size;
            size = 0;
            at = 0;
            begin = 0;
            wrong = NONE;
        }

        private int byteAt(int i) {
            return i >= 0 && i < length ? bytes[i] & 255 : NONE;
        }

        private boolean failed() {
            return wrong != NONE;
        }

        private void fail(int where) {
            if (wrong == NONE) {
                wrong = where;
            }
        }

        /** What comes next cannot stand there; at the text's end more must come. */
        private void failNext() {
            skipBlanks();
            fail(at);
        }

        /** The latest thing that was read cannot stand there. */
        private void failLatest() {
            fail(begin);
        }

        private void skipBlanks() {
            while (at < length && bytes[at] == ' ') {
                at++;
            }
        }

        private boolean atEnd() {
            skipBlanks();
            return at >= length;
        }

        private boolean atDigit() {
            skipBlanks();
            return isDigit(byteAt(at));
        }

        private boolean takeSign(char sign) {
            skipBlanks();
            if (failed() || byteAt(at) != sign) {
                return false;
            }
            begin = at;
            at++;
            return true;
        }

        private boolean takeWord(String word) {
            skipBlanks();
            if (failed() || wordLength() != word.length()) {
                return false;
            }
            for (int i = 0; i < word.length(); i++) {
                if (byteAt(at + i) != word.charAt(i)) {
                    return false;
                }
            }
            begin = at;
            at += word.length();
            return true;
        }

        private int wordLength() {
            int end = at;
            while (end < length && bytes[end] >= 'a' && bytes[end] <= 'z') {
                end++;
            }
            return end - at;
        }

        /** NONE, and the text is wrong, if no such number comes next. */
        private int takeNumber(int least, int most) {
            skipBlanks();
            if (failed()) {
                return NONE;
            }
            begin = at;
            int value = 0;
            while (at < length && isDigit(byteAt(at))) {
                if (at - begin < MOST_DIGITS) {
                    value = value * 10 + byteAt(at) - '0';
                }
                at++;
            }
            int digits = at - begin;
            if (digits == 0 || digits > MOST_DIGITS || value < least || value > most) {
                fail(begin);
                return NONE;
            }
            return value;
        }

        private int takeNumberBehind(String word, int least, int most) {
            if (!takeWord(word)) {
                failNext();
                return NONE;
            }
            return takeNumber(least, most);
        }

        private static boolean isDigit(int sign) {
            return sign >= '0' && sign <= '9';
        }
    }

    /** A text of lines, one behind another with ; between. */
    private abstract static class Text {
        abstract void takeLine(Tape tape);

        /** Uses the tape up: the first wrong byte, or NONE. */
        final int read(Tape tape, int mostLines) {
            tape.open();
            if (tape.atEnd()) {
                return NONE;
            }
            for (int lines = 0; lines < mostLines; lines++) {
                takeLine(tape);
                if (tape.atEnd() || tape.failed()) {
                    return tape.wrong;
                }
                if (!tape.takeSign(';')) {
                    tape.failNext();
                    return tape.wrong;
                }
            }
            tape.failNext();
            return tape.wrong;
        }
    }

    /** Reads a text of the sky into a draft, so that nothing stays of a wrong one. */
    private static final class SkyText extends Text {
        private static final int MOST_LINES = 14;
        private static final int MOST_GROUND = 9;
        private static final int MOST_NEED = 20;
        private static final int MOST_TREE = 9;
        private static final int MOST_PACE = 9;
        private static final int MOST_ODDS = 100;

        private final Sky draft = new Sky();

        void takeLine(Tape tape) {
            if (tape.takeWord("pin")) {
                takePin(tape);
            } else if (tape.takeWord("ground")) {
                takePlaceValue(tape, draft.ground, MOST_GROUND);
            } else if (tape.takeWord("need")) {
                takePlaceValue(tape, draft.need, MOST_NEED);
            } else if (tape.takeWord("tree")) {
                takePlaceValue(tape, draft.tree, MOST_TREE);
            } else if (tape.takeWord("bare")) {
                takeBare(tape);
            } else if (tape.takeWord("pinner")) {
                takePinner(tape);
            } else {
                takeSkyValue(tape);
            }
        }

        private void takeSkyValue(Tape tape) {
            if (tape.takeWord("height")) {
                draft.height = tape.takeNumber(1, MOST_HEIGHT);
            } else if (tape.takeWord("tight")) {
                draft.tight = tape.takeNumber(0, MOST_TIGHT);
            } else if (tape.takeWord("gale")) {
                draft.gale = tape.takeNumber(0, MOST_ODDS);
            } else if (tape.takeWord("moths")) {
                draft.moths = tape.takeNumber(0, MOST_ODDS);
            } else if (tape.takeWord("stock")) {
                draft.stock = tape.takeNumber(0, Sky.MOST_STOCK);
            } else {
                tape.failNext();
            }
        }

        private void takePin(Tape tape) {
            int place = tape.takeNumber(0, LAST_PLACE);
            if (place == NONE) {
                return;
            }
            if (draft.hasPin(place)) {
                tape.failLatest();
                return;
            }
            int rust = 0;
            if (tape.takeWord("rust")) {
                rust = tape.takeNumber(0, Sky.MOST_RUST);
            }
            draft.setPin(place, rust);
        }

        private void takePlaceValue(Tape tape, int[] values, int most) {
            int place = tape.takeNumber(0, LAST_PLACE);
            int value = tape.takeNumber(0, most);
            if (place != NONE) {
                values[place] = value;
            }
        }

        private void takeBare(Tape tape) {
            int place = tape.takeNumber(0, LAST_PLACE);
            if (place != NONE) {
                draft.bare |= 1 << place;
            }
        }

        private void takePinner(Tape tape) {
            if (draft.crew.size >= Crew.MOST_PINNERS) {
                tape.failLatest();
                return;
            }
            int place = tape.takeNumber(0, LAST_PLACE);
            int pace = tape.takeNumberBehind("pace", 1, MOST_PACE);
            int brass = tape.takeNumberBehind("brass", 0, Crew.MOST_BRASS);
            draft.crew.add(place, pace, brass);
        }
    }

    /** Reads a text of the law into a draft, so that nothing stays of a wrong one. */
    private static final class LawText extends Text {
        private static final int MOST_AMOUNT = 30;
        private static final int MOST_NUMBER = 999;
        private static final int MOST_DEPTH = 6;

        private final Law draft = new Law();

        void takeLine(Tape tape) {
            int kind = takeKind(tape);
            if (kind == NONE) {
                return;
            }
            int amount = kind == Law.HOLD ? 0 : tape.takeNumber(0, MOST_AMOUNT);
            if (tape.takeWord("if")) {
                takeCondition(tape, 0);
            }
            draft.endLine(kind, amount);
        }

        private int takeKind(Tape tape) {
            if (tape.takeWord("strain")) {
                return Law.STRAIN;
            }
            if (tape.takeWord("rust")) {
                return Law.RUST;
            }
            if (tape.takeWord("hold")) {
                return Law.HOLD;
            }
            tape.failNext();
            return NONE;
        }

        /** An "or" waits until all that "and" binds behind it has been read. */
        private void takeCondition(Tape tape, int depth) {
            boolean orWaits = false;
            takeAtom(tape, depth);
            for (int i = 0; i < Tape.MOST_BYTES; i++) {
                if (tape.takeWord("and")) {
                    takeAtom(tape, depth);
                    draft.put(Law.AND);
                } else if (tape.takeWord("or")) {
                    if (orWaits) {
                        draft.put(Law.OR);
                    }
                    orWaits = true;
                    takeAtom(tape, depth);
                } else {
                    break;
                }
            }
            if (orWaits) {
                draft.put(Law.OR);
            }
        }

        private void takeAtom(Tape tape, int depth) {
            if (tape.takeWord("pinned")) {
                draft.put(Law.PINNED);
            } else if (tape.takeWord("laddered")) {
                draft.put(Law.LADDERED);
            } else if (tape.takeWord("not")) {
                if (isTooDeep(tape, depth)) {
                    return;
                }
                takeAtom(tape, depth + 1);
                draft.put(Law.NOT);
            } else if (tape.takeSign('(')) {
                if (isTooDeep(tape, depth)) {
                    return;
                }
                takeCondition(tape, depth + 1);
                if (!tape.takeSign(')')) {
                    tape.failNext();
                }
            } else {
                takeSum(tape);
                draft.put(Law.AGAINST);
                int comparison = takeComparison(tape);
                takeSum(tape);
                draft.put(comparison);
            }
        }

        private static boolean isTooDeep(Tape tape, int depth) {
            if (depth >= MOST_DEPTH) {
                tape.failLatest();
                return true;
            }
            return false;
        }

        private static int takeComparison(Tape tape) {
            if (tape.takeSign('<')) {
                return Law.LESS;
            }
            if (!tape.takeSign('>')) {
                tape.failNext();
            }
            return Law.MORE;
        }

        private void takeSum(Tape tape) {
            for (int i = 0; i < Tape.MOST_BYTES; i++) {
                if (tape.atDigit()) {
                    draft.put(tape.takeNumber(0, MOST_NUMBER));
                } else if (tape.takeWord("place")) {
                    draft.put(Law.PLACE);
                } else if (tape.takeWord("tree")) {
                    draft.put(Law.TREE);
                } else if (tape.takeWord("rust")) {
                    draft.put(Law.RUST_THERE);
                } else if (tape.takeWord("ground")) {
                    draft.put(Law.GROUND);
                } else if (tape.takeWord("gap")) {
                    draft.put(Law.GAP);
                } else if (tape.takeWord("day")) {
                    draft.put(Law.DAY);
                } else {
                    tape.failNext();
                }
                if (!tape.takeSign('+')) {
                    return;
                }
            }
        }
    }

    /** The lines of the law, each with its condition as a row of steps to be worked off from left to right. */
    private static final class Law {
        private static final int MOST_LINES = 12;

        private static final int STRAIN = 0;
        private static final int RUST = 1;
        private static final int HOLD = 2;

        /** Steps: a number is added as it is; all other steps are below 0. */
        private static final int PLACE = -2;
        private static final int TREE = -3;
        private static final int RUST_THERE = -4;
        private static final int GROUND = -5;
        private static final int GAP = -6;
        private static final int DAY = -7;
        private static final int AGAINST = -8;
        private static final int LESS = -9;
        private static final int MORE = -10;
        private static final int PINNED = -11;
        private static final int LADDERED = -12;
        private static final int NOT = -13;
        private static final int AND = -14;
        private static final int OR = -15;

        private int lines = NONE;
        private final int[] kinds = new int[MOST_LINES];
        private final int[] amounts = new int[MOST_LINES];
        /** Where the steps of each line end, and those of the next begin. */
        private final int[] ends = new int[MOST_LINES];
        /** A text has no more steps than bytes: what has two steps, < and >, needs a word beside it. */
        private final int[] steps = new int[Tape.MOST_BYTES];
        private int size;

        private void clear() {
            lines = 0;
            size = 0;
        }

        private void put(int step) {
            if (size < steps.length) {
                steps[size] = step;
                size++;
            }
        }

        private void endLine(int kind, int amount) {
            if (lines >= 0 && lines < MOST_LINES) {
                kinds[lines] = kind;
                amounts[lines] = amount;
                ends[lines] = size;
                lines++;
            }
        }

        private void become(Law other) {
            lines = other.lines;
            size = other.size;
            System.arraycopy(other.kinds, 0, kinds, 0, MOST_LINES);
            System.arraycopy(other.amounts, 0, amounts, 0, MOST_LINES);
            System.arraycopy(other.ends, 0, ends, 0, MOST_LINES);
            System.arraycopy(other.steps, 0, steps, 0, steps.length);
        }

        private int total(int kind, Sky sky, int place, int gap, boolean pinned) {
            int total = 0;
            for (int line = 0; line < lines; line++) {
                if (kinds[line] == kind && lineHolds(line, sky, place, gap, pinned)) {
                    total += amounts[line];
                }
            }
            return total;
        }

        private boolean some(int kind, Sky sky, int place, int gap, boolean pinned) {
            for (int line = 0; line < lines; line++) {
                if (kinds[line] == kind && lineHolds(line, sky, place, gap, pinned)) {
                    return true;
                }
            }
            return false;
        }

        private boolean lineHolds(int line, Sky sky, int place, int gap, boolean pinned) {
            // what is true so far, a bit each, the latest lowest: at most two for each of seven depths
            int truths = 1;
            int left = 0;
            int sum = 0;
            for (int i = line == 0 ? 0 : ends[line - 1]; i < ends[line]; i++) {
                int step = steps[i];
                if (step >= 0) {
                    sum += step;
                } else if (step >= DAY) {
                    sum += partOf(step, sky, place, gap);
                } else if (step == AGAINST) {
                    left = sum;
                    sum = 0;
                } else if (step == LESS || step == MORE) {
                    truths = truths << 1 | ((step == LESS ? left < sum : left > sum) ? 1 : 0);
                    sum = 0;
                } else if (step == PINNED || step == LADDERED) {
                    truths = truths << 1 | ((step == PINNED ? pinned : (sky.bare >>> place & 1) == 0) ? 1 : 0);
                } else {
                    truths = joined(step, truths);
                }
            }
            return (truths & 1) != 0;
        }

        private static int partOf(int step, Sky sky, int place, int gap) {
            switch (step) {
                case PLACE:
                    return place;
                case TREE:
                    return sky.tree[place];
                case RUST_THERE:
                    return sky.rust[place];
                case GROUND:
                    return sky.ground[place];
                case GAP:
                    return gap;
                default:
                    return sky.day;
            }
        }

        private static int joined(int step, int truths) {
            int rest = truths >>> 1;
            int latest = truths & 1;
            switch (step) {
                case NOT:
                    return truths ^ 1;
                case AND:
                    return latest == 0 ? rest & ~1 : rest;
                default:
                    return rest | latest;
            }
        }
    }

    /** What the law says of a sky: what strains, rusts, holds and stands in it, and how its days go. */
    private static final class Judge {
        private static final int TOO_MUCH = 60;
        private static final int MOTHS_RUST = 20;
        private static final int PERCENT = 100;

        private final Law law = new Law();
        /** Of each place, as bits, for which gaps the law was asked whether a pin holds there, and for which it does. */
        private final int[] asked = new int[PLACES];
        private final int[] firm = new int[PLACES];

        private int strainAt(Sky sky, int place) {
            return sky.tree[place]
                    + law.total(Law.STRAIN, sky, place, gap(sky.pins, place), sky.hasPin(place));
        }

        private int rustsBy(Sky sky, int place) {
            if (!sky.hasPin(place)) {
                return 0;
            }
            return law.lines == NONE ? 1 : law.total(Law.RUST, sky, place, gap(sky.pins, place), true);
        }

        private static int gap(int pins, int place) {
            return distance(pins & ~(1 << place), place);
        }

        /** What was asked of another sky, or ahead of a change, counts no more. */
        private void startOver() {
            Arrays.fill(asked, 0);
            Arrays.fill(firm, 0);
        }

        private int holding(Sky sky) {
            startOver();
            return holdingWith(sky, sky.pins);
        }

        private int standing(Sky sky) {
            return sky.standing(holding(sky), sky.height, sky.tight);
        }

        /** Which would hold if these were the pins; many sets may be asked of one sky behind one startOver. */
        private int holdingWith(Sky sky, int pins) {
            int holding = 0;
            for (int place = 0; place < PLACES; place++) {
                if (has(pins, place) && holds(sky, place, gap(pins, place))) {
                    holding |= 1 << place;
                }
            }
            return holding;
        }

        private int standingWith(Sky sky, int pins) {
            return sky.standing(holdingWith(sky, pins), sky.height, sky.tight);
        }

        private boolean holds(Sky sky, int place, int gap) {
            int bit = 1 << gap;
            if ((asked[place] & bit) == 0) {
                asked[place] |= bit;
                int load = sky.rust[place] + sky.tree[place]
                        + law.total(Law.STRAIN, sky, place, gap, true);
                if (load < TOO_MUCH || law.some(Law.HOLD, sky, place, gap, true)) {
                    firm[place] |= bit;
                }
            }
            return (firm[place] & bit) != 0;
        }

        /** How many pins are gone by so many days. */
        private int daysMore(Sky sky, int n, boolean withWinds) {
            int gone = 0;
            for (int day = 0; day < n; day++) {
                gone += Integer.bitCount(dayMore(sky, withWinds));
            }
            return gone;
        }

        /** Which pins are gone by a day, as bits. */
        private int dayMore(Sky sky, boolean withWinds) {
            for (int place = 0; place < PLACES; place++) {
                if (sky.hasPin(place)) {
                    sky.rustMore(place, rustsBy(sky, place));
                }
            }
            int before = sky.pins;
            if (withWinds) {
                blow(sky);
                gnaw(sky);
            }
            startOver();
            sky.losePins(sky.pins & ~holdingWith(sky, sky.pins));
            sky.endDay();
            return before & ~sky.pins;
        }

        private static void blow(Sky sky) {
            if (sky.draw() % PERCENT < sky.gale) {
                int place = sky.draw() % PLACES;
                sky.losePins(sky.pins & 1 << place);
            }
        }

        private static void gnaw(Sky sky) {
            if (sky.draw() % PERCENT < sky.moths) {
                int place = sky.draw() % PLACES;
                if (sky.hasPin(place)) {
                    sky.rustMore(place, MOTHS_RUST);
                }
            }
        }
    }

    /** All that texts, acts and days change, but for the law. */
    private static final class Sky {
        private static final int MOST_RUST = 99;
        private static final int MOST_STOCK = 999;
        private static final int MOST_DAY = 9999;

        private final int[] ground = new int[PLACES];
        private final int[] need = new int[PLACES];
        private final int[] tree = new int[PLACES];
        /** 0 where there is no pin. */
        private final int[] rust = new int[PLACES];
        private int bare;
        private int pins;
        private final Crew crew = new Crew();
        private final Log log = new Log();
        private int height = 20;
        private int tight = 3;
        private int gale;
        private int moths;
        private int stock;
        private int day;
        private int seed = 1;
        private int gone;
        private int texts;

        private void become(Sky other) {
            System.arraycopy(other.ground, 0, ground, 0, PLACES);
            System.arraycopy(other.need, 0, need, 0, PLACES);
            System.arraycopy(other.tree, 0, tree, 0, PLACES);
            System.arraycopy(other.rust, 0, rust, 0, PLACES);
            bare = other.bare;
            pins = other.pins;
            crew.become(other.crew);
            log.become(other.log);
            height = other.height;
            tight = other.tight;
            gale = other.gale;
            moths = other.moths;
            stock = other.stock;
            day = other.day;
            seed = other.seed;
            gone = other.gone;
            texts = other.texts;
        }

        private boolean hasLadder(int place) {
            return !has(bare, place);
        }

        private boolean hasPin(int place) {
            return has(pins, place);
        }

        /** Where a new pin can be set. */
        private int free() {
            return EVERY_PLACE & ~bare & ~pins;
        }

        private void setPin(int place, int itsRust) {
            pins |= 1 << place;
            rust[place] = itsRust;
        }

        private void takePin(int place) {
            pins &= ~(1 << place);
            rust[place] = 0;
        }

        private void rustMore(int place, int more) {
            rust[place] = Math.min(rust[place] + more, MOST_RUST);
        }

        private void losePins(int lost) {
            for (int place = 0; place < PLACES; place++) {
                if (has(lost, place)) {
                    log.add(day, place, Log.GONE, rust[place]);
                    takePin(place);
                    gone++;
                }
            }
        }

        private void endDay() {
            day = Math.min(day + 1, MOST_DAY);
        }

        /** 15 bits, so never below 0. */
        private int draw() {
            seed = 1103515245 * seed + 12345;
            return seed >>> 16 & 32767;
        }

        /** How high it hangs; of the pins that hold the next one counts most, as each step only lowers it. */
        private int skyAt(int place, int holding, int byHeight, int byTight) {
            if (holding == 0) {
                return 0;
            }
            int hangs = Math.max(0, byHeight - byTight * distance(holding, place));
            return Math.max(0, hangs - 2 * tree[place]);
        }

        private int standing(int holding, int byHeight, int byTight) {
            int standing = 0;
            for (int place = 0; place < PLACES; place++) {
                if (skyAt(place, holding, byHeight, byTight) - ground[place] >= need[place]) {
                    standing |= 1 << place;
                }
            }
            return standing;
        }
    }

    private static final class Crew {
        private static final int MOST_PINNERS = 5;
        private static final int MOST_BRASS = 30;

        private int size;
        private final int[] at = new int[MOST_PINNERS];
        private final int[] pace = new int[MOST_PINNERS];
        private final int[] brass = new int[MOST_PINNERS];

        private void become(Crew other) {
            size = other.size;
            System.arraycopy(other.at, 0, at, 0, MOST_PINNERS);
            System.arraycopy(other.pace, 0, pace, 0, MOST_PINNERS);
            System.arraycopy(other.brass, 0, brass, 0, MOST_PINNERS);
        }

        private void add(int itsPlace, int itsPace, int itsBrass) {
            if (size < MOST_PINNERS) {
                at[size] = itsPlace;
                pace[size] = itsPace;
                brass[size] = itsBrass;
                size++;
            }
        }

        private int brassOfAll() {
            int all = 0;
            for (int pinner = 0; pinner < size; pinner++) {
                all += brass[pinner];
            }
            return all;
        }

        private int daysTo(int pinner, int place) {
            // a pace is 1 at least; the test keeps the division safe all the same
            int steps = Math.abs(at[pinner] - place);
            return pace[pinner] < 1 ? steps : (steps + pace[pinner] - 1) / pace[pinner];
        }
    }

    /** The latest pins that came or went, the oldest making room for a new one. */
    private static final class Log {
        private static final int PINNED = 0;
        private static final int CHANGED = 1;
        private static final int PULLED = 2;
        private static final int GONE = 3;

        private static final int LAST_WHAT = 3;
        private static final int MOST_ROWS = 60;

        /** A row is one number: there are many skies, and each has a log. */
        private final int[] rows = new int[MOST_ROWS];
        private int size;
        private int next;

        private void become(Log other) {
            System.arraycopy(other.rows, 0, rows, 0, MOST_ROWS);
            size = other.size;
            next = other.next;
        }

        private void add(int day, int place, int what, int rust) {
            if (next < 0 || next >= MOST_ROWS) {
                next = 0;
            }
            rows[next] = day << 16 | place << 12 | what << 8 | rust;
            next = (next + 1) % MOST_ROWS;
            size = Math.min(size + 1, MOST_ROWS);
        }

        private int rowAgo(int ago) {
            int i = (next - 1 - ago + 2 * MOST_ROWS) % MOST_ROWS;
            return i < 0 ? 0 : rows[i];
        }

        private int tell(int ago, int what) {
            if (ago < 0 || ago >= size) {
                return NONE;
            }
            int row = rowAgo(ago);
            switch (what) {
                case 0:
                    return row >>> 16;
                case 1:
                    return row >>> 12 & 15;
                case 2:
                    return row >>> 8 & 15;
                default:
                    return row & 255;
            }
        }

        private int rowsOf(int place) {
            int rowsOfIt = 0;
            for (int ago = 0; ago < size; ago++) {
                if (tell(ago, 1) == place) {
                    rowsOfIt++;
                }
            }
            return rowsOfIt;
        }

        private int latestDayOf(int place) {
            for (int ago = 0; ago < size; ago++) {
                if (tell(ago, 1) == place) {
                    return tell(ago, 0);
                }
            }
            return NONE;
        }
    }

    /** The sky as it was ahead of each of the latest acts. */
    private static final class Past {
        private static final int MOST_ACTS = 12;

        private final Sky[] skies = new Sky[MOST_ACTS];
        private int size;
        private int next;

        private Past() {
            for (int i = 0; i < MOST_ACTS; i++) {
                skies[i] = new Sky();
            }
        }

        private void remember(Sky sky) {
            skies[next].become(sky);
            next = (next + 1) % MOST_ACTS;
            size = Math.min(size + 1, MOST_ACTS);
        }

        private boolean takeBack(Sky sky) {
            if (size == 0) {
                return false;
            }
            next = (next + MOST_ACTS - 1) % MOST_ACTS;
            size--;
            sky.become(skies[next]);
            return true;
        }

        private void forget() {
            size = 0;
        }
    }

    /** Who goes to which of the told places, so that the one who takes longest takes the fewest days. */
    private static final class Rota {
        private final int[] places = new int[Crew.MOST_PINNERS];
        private final int[] way = new int[Crew.MOST_PINNERS];
        private final int[] best = new int[Crew.MOST_PINNERS];
        private int fewestDays;

        /** Whether the tape tells one place for each pinner. */
        private boolean take(Tape tape, Crew crew) {
            if (tape.length != crew.size) {
                return false;
            }
            for (int i = 0; i < crew.size; i++) {
                places[i] = tape.byteAt(i);
                if (places[i] > LAST_PLACE) {
                    return false;
                }
            }
            return true;
        }

        private void settle(Crew crew) {
            // no way takes as many days as there are places
            fewestDays = PLACES;
            send(crew, 0, 0, 0);
        }

        /** Ways come in their order, so the first of the best stays. */
        private void send(Crew crew, int pinner, int taken, int longest) {
            if (pinner >= crew.size || pinner >= way.length) {
                if (longest < fewestDays) {
                    fewestDays = longest;
                    System.arraycopy(way, 0, best, 0, best.length);
                }
                return;
            }
            for (int i = 0; i < crew.size; i++) {
                if (!has(taken, i)) {
                    way[pinner] = i;
                    int days = crew.daysTo(pinner, places[i]);
                    send(crew, pinner + 1, taken | 1 << i, Math.max(longest, days));
                }
            }
        }
    }
}
