import java.math.BigInteger;
import java.util.ArrayDeque;
import java.util.ArrayList;
import java.util.Arrays;
import java.util.Deque;
import java.util.HashMap;
import java.util.HashSet;
import java.util.List;
import java.util.Map;
import java.util.NoSuchElementException;
import java.util.Set;
import java.util.TreeMap;
import java.util.TreeSet;

/**
 * A second way to every answer, written from the document alone and by other means than the class: tokens and
 * trees for texts, maps for pins, trying all there is for what the class works out. Slow, and meant to be.
 */
final class Model {
    static final int NONE = -1;

    /** Thrown by the readers: the first wrong byte. */
    private static final class Wrong extends Exception {
        private static final long serialVersionUID = 1L;
        final int at;

        Wrong(int at) {
            this.at = at;
        }
    }

    private record Token(char kind, String text, int at) {
        boolean is(String other) {
            return text.equals(other);
        }
    }

    private static List<Token> tokens(List<Integer> bytes) {
        List<Token> tokens = new ArrayList<>();
        int i = 0;
        while (i < bytes.size()) {
            int from = i;
            StringBuilder text = new StringBuilder();
            char kind = kindOf(bytes.get(i));
            do {
                text.append((char) (int) bytes.get(i));
                i++;
            } while (kind != 's' && i < bytes.size() && kindOf(bytes.get(i)) == kind);
            if (kind != 'b') {
                tokens.add(new Token(kind, text.toString(), from));
            }
        }
        tokens.add(new Token('e', "", bytes.size()));
        return tokens;
    }

    private static char kindOf(int sign) {
        if (sign == 32) {
            return 'b';
        }
        if (sign >= 'a' && sign <= 'z') {
            return 'w';
        }
        return sign >= '0' && sign <= '9' ? 'n' : 's';
    }

    /** What a condition may look at. */
    private record Look(Sky sky, Map<Integer, Integer> pins, int place) {
        int gap() {
            int gap = 16;
            for (int other : pins.keySet()) {
                if (other != place) {
                    gap = Math.min(gap, Math.abs(other - place));
                }
            }
            return gap;
        }
    }

    private interface Condition {
        boolean test(Look look);
    }

    private interface Sum {
        int value(Look look);
    }

    private record Line(String kind, int amount, Condition condition) {
    }

    private static final class Reader {
        final List<Token> tokens;
        int i = 0;

        Reader(List<Integer> bytes) {
            tokens = tokens(bytes);
        }

        Token peek() {
            return tokens.get(i);
        }

        Wrong wrong() {
            return new Wrong(peek().at);
        }

        boolean eat(String text) {
            if (peek().is(text) && peek().kind != 'e') {
                i++;
                return true;
            }
            return false;
        }

        void must(String text) throws Wrong {
            if (!eat(text)) {
                throw wrong();
            }
        }

        int number(int least, int most) throws Wrong {
            Token token = peek();
            if (token.kind != 'n' || token.text.length() > 3) {
                throw wrong();
            }
            int value = Integer.parseInt(token.text);
            if (value < least || value > most) {
                throw wrong();
            }
            i++;
            return value;
        }

        Condition condition(int depth) throws Wrong {
            List<Condition> any = new ArrayList<>();
            do {
                List<Condition> all = new ArrayList<>();
                do {
                    all.add(atom(depth));
                } while (eat("and"));
                any.add(look -> all.stream().allMatch(one -> one.test(look)));
            } while (eat("or"));
            return look -> any.stream().anyMatch(one -> one.test(look));
        }

        Condition atom(int depth) throws Wrong {
            if (peek().is("not") || peek().is("(")) {
                if (depth == 6) {
                    throw wrong();
                }
                if (eat("not")) {
                    Condition inner = atom(depth + 1);
                    return look -> !inner.test(look);
                }
                must("(");
                Condition inner = condition(depth + 1);
                must(")");
                return inner;
            }
            if (eat("pinned")) {
                return look -> look.pins.containsKey(look.place);
            }
            if (eat("laddered")) {
                return look -> !look.sky.bare.contains(look.place);
            }
            Sum left = sum();
            boolean less = peek().is("<");
            if (!less && !peek().is(">")) {
                throw wrong();
            }
            i++;
            Sum right = sum();
            return look -> less ? left.value(look) < right.value(look) : left.value(look) > right.value(look);
        }

        Sum sum() throws Wrong {
            List<Sum> parts = new ArrayList<>();
            do {
                parts.add(part());
            } while (eat("+"));
            return look -> parts.stream().mapToInt(part -> part.value(look)).sum();
        }

        Sum part() throws Wrong {
            if (peek().kind == 'n') {
                int value = number(0, 999);
                return look -> value;
            }
            String word = peek().text;
            Map<String, Sum> parts = Map.of(
                "place", look -> look.place,
                "tree", look -> look.sky.tree[look.place],
                "rust", look -> look.pins.getOrDefault(look.place, 0),
                "ground", look -> look.sky.ground[look.place],
                "gap", Look::gap,
                "day", look -> look.sky.day);
            if (!parts.containsKey(word)) {
                throw wrong();
            }
            i++;
            return parts.get(word);
        }

        List<Line> law() throws Wrong {
            List<Line> lines = new ArrayList<>();
            if (peek().kind == 'e') {
                return lines;
            }
            do {
                String kind = peek().text;
                if (lines.size() == 12 || !List.of("strain", "rust", "hold").contains(kind)) {
                    throw wrong();
                }
                i++;
                int amount = kind.equals("hold") ? 0 : number(0, 30);
                Condition condition = eat("if") ? condition(0) : look -> true;
                lines.add(new Line(kind, amount, condition));
            } while (eat(";"));
            if (peek().kind != 'e') {
                throw wrong();
            }
            return lines;
        }

        void sky(Sky sky) throws Wrong {
            if (peek().kind == 'e') {
                return;
            }
            int lines = 0;
            do {
                if (lines == 14) {
                    throw wrong();
                }
                skyLine(sky);
                lines++;
            } while (eat(";"));
            if (peek().kind != 'e') {
                throw wrong();
            }
        }

        private void skyLine(Sky sky) throws Wrong {
            Token word = peek();
            if (word.kind != 'w') {
                throw wrong();
            }
            i++;
            switch (word.text) {
                case "pin" -> {
                    int at = peek().at;
                    int place = number(0, 15);
                    if (sky.pins.containsKey(place)) {
                        throw new Wrong(at);
                    }
                    sky.pins.put(place, eat("rust") ? number(0, 99) : 0);
                }
                case "ground" -> put(sky.ground, 9);
                case "need" -> put(sky.need, 20);
                case "tree" -> put(sky.tree, 9);
                case "bare" -> sky.bare.add(number(0, 15));
                case "pinner" -> {
                    if (sky.pinners.size() == 5) {
                        throw new Wrong(word.at);
                    }
                    int place = number(0, 15);
                    must("pace");
                    int pace = number(1, 9);
                    must("brass");
                    sky.pinners.add(new int[] {place, pace, number(0, 30)});
                }
                case "height" -> sky.height = number(1, 40);
                case "tight" -> sky.tight = number(0, 9);
                case "gale" -> sky.gale = number(0, 100);
                case "moths" -> sky.moths = number(0, 100);
                case "stock" -> sky.stock = number(0, 999);
                default -> throw new Wrong(word.at);
            }
        }

        private void put(int[] row, int most) throws Wrong {
            int place = number(0, 15);
            row[place] = number(0, most);
        }
    }

    private static final class Sky implements Cloneable {
        int[] ground = new int[16];
        int[] need = new int[16];
        int[] tree = new int[16];
        Set<Integer> bare = new TreeSet<>();
        TreeMap<Integer, Integer> pins = new TreeMap<>();
        List<int[]> pinners = new ArrayList<>();
        List<int[]> log = new ArrayList<>();
        List<Line> law = null;
        int height = 20;
        int tight = 3;
        int gale = 0;
        int moths = 0;
        int stock = 0;
        int day = 0;
        int seed = 1;
        int gone = 0;
        int texts = 0;

        Sky copy() {
            Sky copy = new Sky();
            copy.ground = ground.clone();
            copy.need = need.clone();
            copy.tree = tree.clone();
            copy.bare.addAll(bare);
            copy.pins.putAll(pins);
            pinners.forEach(one -> copy.pinners.add(one.clone()));
            copy.log.addAll(log);
            copy.law = law;
            copy.height = height;
            copy.tight = tight;
            copy.gale = gale;
            copy.moths = moths;
            copy.stock = stock;
            copy.day = day;
            copy.seed = seed;
            copy.gone = gone;
            copy.texts = texts;
            return copy;
        }

        int lines(String kind, int place) {
            int sum = 0;
            for (Line line : law == null ? List.<Line>of() : law) {
                if (line.kind.equals(kind) && line.condition.test(new Look(this, pins, place))) {
                    sum += line.amount;
                }
            }
            return sum;
        }

        int strain(int place) {
            return tree[place] + lines("strain", place);
        }

        int rusts(int place) {
            if (!pins.containsKey(place)) {
                return 0;
            }
            return law == null ? 1 : lines("rust", place);
        }

        boolean holds(int place) {
            if (!pins.containsKey(place)) {
                return false;
            }
            if (pins.get(place) + strain(place) < 60) {
                return true;
            }
            return law != null && law.stream().anyMatch(
                line -> line.kind.equals("hold") && line.condition.test(new Look(this, pins, place)));
        }

        int held() {
            int bits = 0;
            for (int place = 0; place < 16; place++) {
                bits |= holds(place) ? 1 << place : 0;
            }
            return bits;
        }

        int[] hangs() {
            int held = held();
            int[] hangs = new int[16];
            for (int place = 0; place < 16; place++) {
                int most = 0;
                for (int pin = 0; pin < 16; pin++) {
                    if ((held >> pin & 1) == 1) {
                        most = Math.max(most, height - tight * Math.abs(pin - place));
                    }
                }
                hangs[place] = Math.max(0, most - tree[place] - tree[place]);
            }
            return hangs;
        }

        Set<Integer> stand() {
            Set<Integer> stand = new TreeSet<>();
            int[] hangs = hangs();
            for (int place = 0; place < 16; place++) {
                if (hangs[place] - ground[place] >= need[place]) {
                    stand.add(place);
                }
            }
            return stand;
        }

        void log(int place, int what, int rust) {
            log.add(new int[] {day, place, what, rust});
            if (log.size() > 60) {
                log.remove(0);
            }
        }

        void lose(int place) {
            log(place, 3, pins.remove(place));
            gone++;
        }

        int draw() {
            seed = seed * 1103515245 + 12345;
            return (seed & 0x7fff0000) >> 16;
        }

        void day(boolean winds) {
            for (int place : pins.keySet()) {
                pins.put(place, Math.min(99, pins.get(place) + rusts(place)));
            }
            if (winds) {
                if (draw() % 100 < gale) {
                    int place = draw() % 16;
                    if (pins.containsKey(place)) {
                        lose(place);
                    }
                }
                if (draw() % 100 < moths) {
                    int place = draw() % 16;
                    pins.computeIfPresent(place, (key, rust) -> Math.min(99, rust + 20));
                }
            }
            int held = held();
            for (int place : List.copyOf(pins.keySet())) {
                if ((held >> place & 1) == 0) {
                    lose(place);
                }
            }
            day = Math.min(9999, day + 1);
        }

        Sky after(int days, boolean winds) {
            Sky sky = copy();
            for (int i = 0; i < days; i++) {
                sky.day(winds);
            }
            return sky;
        }

        Sky with(int newPins, int lostPins) {
            Sky sky = copy();
            for (int place = 0; place < 16; place++) {
                if ((lostPins >> place & 1) == 1) {
                    sky.pins.remove(place);
                }
                if ((newPins >> place & 1) == 1) {
                    sky.pins.put(place, 0);
                }
            }
            return sky;
        }

        boolean free(int place) {
            return !bare.contains(place) && !pins.containsKey(place);
        }
    }

    private static int bits(Iterable<Integer> places) {
        int bits = 0;
        for (int place : places) {
            bits += 1 << place;
        }
        return bits;
    }

    private List<Integer> tape = new ArrayList<>();
    private Sky now = new Sky();
    private final Deque<Sky> past = new ArrayDeque<>();
    private Sky image = null;
    private int fault = NONE;

    private List<Integer> use() {
        List<Integer> used = tape;
        tape = new ArrayList<>();
        return used;
    }

    private void act() {
        past.addLast(now.copy());
        if (past.size() > 12) {
            past.removeFirst();
        }
    }

    private void needPlace(int place) {
        if (place < 0 || place > 15) {
            throw new IndexOutOfBoundsException();
        }
    }

    private int[] needPinner(int pinner) {
        if (pinner < 0 || pinner >= now.pinners.size()) {
            throw new IndexOutOfBoundsException();
        }
        return now.pinners.get(pinner);
    }

    private void need(boolean number) {
        if (!number) {
            throw new IllegalArgumentException();
        }
    }

    private void can(boolean state) {
        if (!state) {
            throw new IllegalStateException();
        }
    }

    int feed(int a, int b, int c, int d, int e) {
        if (tape.size() > 380) {
            return NONE;
        }
        for (int number : new int[] {a, b, c, d, e}) {
            for (int shift = 24; shift >= 0; shift -= 8) {
                tape.add(number >> shift & 255);
            }
        }
        return tape.size();
    }

    boolean end(int n) {
        if (n < 0 || n > tape.size()) {
            return false;
        }
        tape = new ArrayList<>(tape.subList(0, n));
        return true;
    }

    int sky() {
        Sky next = now.copy();
        fault = NONE;
        try {
            new Reader(use()).sky(next);
        } catch (Wrong wrong) {
            fault = wrong.at;
            throw new IllegalArgumentException();
        }
        if (now.texts == 12) {
            throw new UnsupportedOperationException();
        }
        now = next;
        past.clear();
        return ++now.texts;
    }

    int law() {
        fault = NONE;
        try {
            now.law = new Reader(use()).law();
        } catch (Wrong wrong) {
            fault = wrong.at;
            throw new IllegalArgumentException();
        }
        past.clear();
        return now.law.size();
    }

    int fault() {
        return fault;
    }

    int place(int place, int what) {
        needPlace(place);
        if (what < 0 || what > 9) {
            throw new NoSuchElementException();
        }
        boolean pinned = now.pins.containsKey(place);
        return new int[] {now.ground[place], now.need[place], now.tree[place],
            now.bare.contains(place) ? 0 : 1, pinned ? 1 : 0, pinned ? now.pins.get(place) : 0,
            now.strain(place), now.holds(place) ? 1 : 0, now.hangs()[place],
            now.stand().contains(place) ? 1 : 0}[what];
    }

    int pinner(int pinner, int what) {
        int[] one = needPinner(pinner);
        if (what < 0 || what > 2) {
            throw new NoSuchElementException();
        }
        return one[what];
    }

    int rusts(int place) {
        needPlace(place);
        return now.rusts(place);
    }

    int pin(int pinner) {
        int[] one = needPinner(pinner);
        can(now.free(one[0]) && one[2] > 0);
        act();
        one[2]--;
        now.pins.put(one[0], 0);
        now.log(one[0], 0, 0);
        return one[0];
    }

    int change(int pinner) {
        int[] one = needPinner(pinner);
        can(!now.bare.contains(one[0]) && now.pins.containsKey(one[0]) && one[2] > 0);
        act();
        one[2]--;
        int rust = now.pins.put(one[0], 0);
        now.log(one[0], 1, rust);
        return rust;
    }

    int go(int pinner, int place) {
        int[] one = needPinner(pinner);
        needPlace(place);
        int steps = Math.max(one[0], place) - Math.min(one[0], place);
        need(steps <= one[1]);
        act();
        one[0] = place;
        return steps;
    }

    int pull(int place) {
        needPlace(place);
        can(now.pins.containsKey(place));
        act();
        int rust = now.pins.remove(place);
        now.log(place, 2, rust);
        now.stock += now.stock < 999 ? 1 : 0;
        return rust;
    }

    int hand(int pinner, int n) {
        int[] one = needPinner(pinner);
        need(n >= 1 && n <= 30);
        can(n <= now.stock && one[2] + n <= 30);
        act();
        now.stock -= n;
        return one[2] += n;
    }

    int fell(int place) {
        needPlace(place);
        act();
        int tree = now.tree[place];
        now.tree[place] = 0;
        return tree;
    }

    int height(int n) {
        need(n >= 1 && n <= 40);
        act();
        int height = now.height;
        now.height = n;
        return height;
    }

    int days(int n) {
        need(n >= 1 && n <= 60);
        act();
        int pins = now.pins.size();
        now = now.after(n, true);
        return pins - now.pins.size();
    }

    int low() {
        return 65535 - bits(now.stand());
    }

    int held() {
        return now.held();
    }

    int gives(boolean which) {
        for (int n = 1; n <= 60; n++) {
            Set<Integer> lost = new TreeSet<>(now.pins.keySet());
            lost.removeAll(now.after(n, false).pins.keySet());
            if (!lost.isEmpty()) {
                return which ? bits(lost) : n;
            }
        }
        return which ? 0 : NONE;
    }

    int weakest() {
        return now.pins.keySet().stream().max((a, b) -> {
            int load = Integer.compare(now.pins.get(a) + now.strain(a), now.pins.get(b) + now.strain(b));
            return load != 0 ? load : Integer.compare(b, a);
        }).orElse(NONE);
    }

    int key() {
        int low = 16 - now.stand().size();
        return bits(now.pins.keySet().stream()
            .filter(pin -> 16 - now.with(0, 1 << pin).stand().size() > low).toList());
    }

    int fewest(int places) {
        int best = NONE;
        for (int set = 0; set < 65536; set++) {
            int size = Integer.bitCount(set);
            if (size > 4 || best != NONE && size >= Integer.bitCount(best)) {
                continue;
            }
            boolean can = true;
            for (int place = 0; place < 16; place++) {
                can &= (set >> place & 1) == 0 || now.free(place);
            }
            if (can && (places & 65535 & ~bits(now.with(set, 0).stand())) == 0) {
                best = set;
            }
        }
        return best;
    }

    int first() {
        int best = NONE;
        for (int place = 15; place >= 0; place--) {
            if (now.free(place) && (best == NONE
                    || now.with(1 << place, 0).stand().size() >= now.with(1 << best, 0).stand().size())) {
                best = place;
            }
        }
        return best;
    }

    int spare() {
        return bits(now.pins.keySet().stream()
            .filter(pin -> now.with(0, 1 << pin).stand().containsAll(now.stand())).toList());
    }

    /** Walks step by step, a walk being its place and all that it has come to. */
    int round(int pinner, int places, boolean last) {
        int from = needPinner(pinner)[0];
        int wanted = places & 65535;
        Set<Integer> walks = new HashSet<>(Set.of(from << 16 | 1 << from));
        Set<Integer> known = new HashSet<>(walks);
        for (int steps = 0;; steps++) {
            TreeSet<Integer> ends = new TreeSet<>();
            for (int walk : walks) {
                if ((wanted & ~walk) == 0) {
                    ends.add(walk >> 16);
                }
            }
            if (!ends.isEmpty()) {
                return last ? ends.first() : steps;
            }
            Set<Integer> next = new HashSet<>();
            for (int walk : walks) {
                for (int to : new int[] {(walk >> 16) - 1, (walk >> 16) + 1}) {
                    if (to >= 0 && to < 16) {
                        next.add(to << 16 | walk & 65535 | 1 << to);
                    }
                }
            }
            next.removeAll(known);
            known.addAll(next);
            walks = next;
        }
    }

    int goes(int pinner) {
        List<Integer> told = use();
        if (pinner != NONE) {
            needPinner(pinner);
        }
        need(told.size() == now.pinners.size() && told.stream().allMatch(place -> place < 16));
        List<List<Integer>> ways = new ArrayList<>();
        ways(new ArrayList<>(), told.size(), ways);
        Map<Integer, List<Integer>> firstBy = new HashMap<>();
        int least = 99;
        for (List<Integer> way : ways) {
            int longest = 0;
            for (int i = 0; i < way.size(); i++) {
                int[] one = now.pinners.get(i);
                int left = Math.abs(told.get(way.get(i)) - one[0]);
                int days = 0;
                while (left > 0) {
                    left -= one[1];
                    days++;
                }
                longest = Math.max(longest, days);
            }
            firstBy.putIfAbsent(longest, way);
            least = Math.min(least, longest);
        }
        return pinner == NONE ? least : firstBy.get(least).get(pinner);
    }

    private static void ways(List<Integer> begun, int size, List<List<Integer>> ways) {
        if (begun.size() == size) {
            ways.add(List.copyOf(begun));
            return;
        }
        for (int i = 0; i < size; i++) {
            if (!begun.contains(i)) {
                begun.add(i);
                ways(begun, size, ways);
                begun.remove(begun.size() - 1);
            }
        }
    }

    int before(int n) {
        need(n >= 0 && n <= 20);
        Set<Integer> reached = new TreeSet<>();
        for (int[] one : now.pinners) {
            for (int place = one[0] - n * one[1]; place <= one[0] + n * one[1]; place++) {
                if (place >= 0 && place <= 15) {
                    reached.add(place);
                }
            }
        }
        return bits(reached);
    }

    private List<Integer> fits() {
        List<Integer> told = use();
        need(told.size() <= 40 && told.size() % 2 == 0);
        for (int i = 0; i < told.size(); i += 2) {
            need(told.get(i) < 16);
        }
        List<Integer> fits = new ArrayList<>();
        int pins = bits(now.pins.keySet());
        for (int gone = 0; gone < 65536; gone++) {
            if ((gone & ~pins) != 0 || Integer.bitCount(gone) > 2) {
                continue;
            }
            int[] hangs = now.with(0, gone).hangs();
            boolean fit = true;
            for (int i = 0; i < told.size(); i += 2) {
                fit &= hangs[told.get(i)] == told.get(i + 1);
            }
            if (fit) {
                fits.add(gone);
            }
        }
        return fits;
    }

    int seen(boolean sure) {
        List<Integer> fits = fits();
        return sure ? fits.stream().reduce((a, b) -> a & b).orElse(0) : fits.size();
    }

    int climb() {
        List<Integer> fits = fits();
        if (fits.size() < 2) {
            return NONE;
        }
        TreeMap<Integer, Integer> byPart = new TreeMap<>();
        for (int place = 0; place < 16; place++) {
            if (now.bare.contains(place)) {
                continue;
            }
            Map<Integer, Integer> parts = new HashMap<>();
            for (int gone : fits) {
                parts.merge(now.with(0, gone).hangs()[place], 1, Integer::sum);
            }
            byPart.putIfAbsent(parts.values().stream().max(Integer::compare).get(), place);
        }
        return byPart.isEmpty() ? NONE : byPart.firstEntry().getValue();
    }

    int duke() {
        List<Integer> pulls = new ArrayList<>(List.of(0));
        List<Integer> sets = new ArrayList<>(List.of(0));
        for (int place = 0; place < 16; place++) {
            if (now.pins.containsKey(place)) {
                pulls.add(1 << place);
            }
            if (now.free(place)) {
                sets.add(1 << place);
            }
        }
        int[][] stand = new int[pulls.size()][sets.size()];
        for (int d = 0; d < pulls.size(); d++) {
            for (int g = 0; g < sets.size(); g++) {
                stand[d][g] = now.with(sets.get(g), pulls.get(d)).stand().size();
            }
        }
        int pairs = 0;
        for (int d = 0; d < pulls.size(); d++) {
            for (int g = 0; g < sets.size(); g++) {
                boolean rest = true;
                for (int[] row : stand) {
                    rest &= 16 - row[g] <= 16 - stand[d][g];
                }
                rest &= Arrays.stream(stand[d]).max().getAsInt() == stand[d][g];
                pairs += rest ? 1 : 0;
            }
        }
        return pairs;
    }

    int pay(int n) {
        need(n >= 0 && n < now.height);
        Sky lower = now.copy();
        lower.height -= n;
        Set<Integer> lost = now.stand();
        lost.removeAll(lower.stand());
        return lost.size();
    }

    int season() {
        int best = 9;
        int most = -1;
        for (int tight = 9; tight >= 0; tight--) {
            Sky sky = now.copy();
            sky.tight = tight;
            if (sky.stand().size() >= most) {
                most = sky.stand().size();
                best = tight;
            }
        }
        return best;
    }

    int best() {
        Sky sky = now.copy();
        sky.height = 40;
        Set<Integer> wanted = sky.stand();
        sky.height = 1;
        while (!sky.stand().containsAll(wanted)) {
            sky.height++;
        }
        return sky.height;
    }

    int lasts() {
        for (int n = 0; n <= 60; n++) {
            if (!now.after(n, false).stand().containsAll(now.stand())) {
                return n;
            }
        }
        return NONE;
    }

    int stars(int from, int to) {
        needPlace(from);
        needPlace(to);
        need(from <= to);
        int stars = 0;
        for (int place = from; place <= to; place++) {
            stars += now.holds(place) ? 1 : 0;
        }
        return stars;
    }

    int longest() {
        int longest = 0;
        for (int from = 0; from < 16; from++) {
            for (int to = from; to < 16 && stars(from, to) == 0; to++) {
                longest = Math.max(longest, to - from + 1);
            }
        }
        return longest;
    }

    int ahead(int place, int n, boolean rust) {
        needPlace(place);
        need(n >= 0 && n <= 60);
        Sky then = now.after(n, false);
        return rust ? then.pins.getOrDefault(place, 0) : then.hangs()[place];
    }

    int odds(int n, int k) {
        need(n >= 0 && n <= 6 && k >= 0 && k <= 6);
        BigInteger ways = BigInteger.ZERO;
        for (int gales = 0; gales < 1 << n; gales++) {
            if (Integer.bitCount(gales) >= k) {
                BigInteger way = BigInteger.ONE;
                for (int day = 0; day < n; day++) {
                    way = way.multiply(BigInteger.valueOf((gales >> day & 1) == 1 ? now.gale : 100 - now.gale));
                }
                ways = ways.add(way);
            }
        }
        return ways.multiply(BigInteger.valueOf(10000)).divide(BigInteger.valueOf(100).pow(n)).intValue();
    }

    int needs(int n) {
        need(n >= 0 && n <= 60);
        return now.after(n, false).gone - now.gone;
    }

    int trial(int n, boolean stand) {
        need(n >= 0 && n <= 60);
        Sky then = now.after(n, true);
        return stand ? then.stand().size() : then.gone - now.gone;
    }

    int span(int n, boolean most) {
        need(n >= 0 && n <= 60);
        TreeSet<Integer> gone = new TreeSet<>();
        for (int seed = 1; seed <= 6; seed++) {
            Sky sky = now.copy();
            sky.seed = seed;
            gone.add(sky.after(n, true).gone - now.gone);
        }
        return most ? gone.last() : gone.first();
    }

    int led(int place, boolean day) {
        needPlace(place);
        List<int[]> rows = now.log.stream().filter(row -> row[1] == place).toList();
        if (!day) {
            return rows.size();
        }
        return rows.isEmpty() ? NONE : rows.get(rows.size() - 1)[0];
    }

    int log(int ago, int what) {
        if (what < 0 || what > 3) {
            throw new NoSuchElementException();
        }
        return ago < 0 || ago >= now.log.size() ? NONE : now.log.get(now.log.size() - 1 - ago)[what];
    }

    int seed(int n) {
        int seed = now.seed;
        now.seed = n;
        return seed;
    }

    boolean undo() {
        if (past.isEmpty()) {
            return false;
        }
        now = past.removeLast();
        return true;
    }

    void image() {
        image = now.copy();
    }

    boolean back() {
        if (image == null) {
            return false;
        }
        now = image.copy();
        past.clear();
        return true;
    }

    int count(int what) {
        if (what < 0 || what > 11) {
            return NONE;
        }
        return new int[] {now.pinners.size(), now.texts, now.law == null ? NONE : now.law.size(), now.day,
            now.height, now.tight, now.stock, bits(now.pins.keySet()),
            now.pinners.stream().mapToInt(one -> one[2]).sum(), now.gone, now.log.size(), past.size()}[what];
    }
}
