import java.nio.charset.StandardCharsets;
import java.util.Random;

/** Random runs of calls, each answer compared with the model's. */
public final class ModelTest {
    /** Some below the 512 that an object is made for, as a step may be many calls. */
    private static final int CALLS = 480;
    private static final String[] SKY_BITS = {"pin", "rust", "ground", "need", "tree", "bare", "pinner", "pace",
        "brass", "height", "tight", "gale", "moths", "stock", ";", " ", "0", "1", "15", "99", "1000", "x", ";;"};
    private static final String[] LAW_BITS = {"strain", "rust", "hold", "if", "and", "or", "not", "(", ")", "<",
        ">", "+", "pinned", "laddered", "gap", "day", "place", "tree", "ground", "7", "31", "1234", ";", " ", "q"};

    private final Random random;
    private final PinnedSky sky = new PinnedSky();
    private final Model model = new Model();
    private final int run;
    private final StringBuilder trail = new StringBuilder();
    private int made = 0;
    private boolean differs = false;

    private ModelTest(int run) {
        this.run = run;
        this.random = new Random(run * 7919L + 13);
    }

    public static void main(String[] args) {
        int from = args.length > 0 ? Integer.parseInt(args[0]) : 0;
        int runs = args.length > 1 ? Integer.parseInt(args[1]) : 150;
        for (int run = from; run < from + runs; run++) {
            new ModelTest(run).go();
        }
        Check.finish("ModelTest");
    }

    private void go() {
        int style = random.nextInt(4);
        if (style != 0) {
            text(skyText(), true);
        }
        if (style >= 2) {
            text(lawText(), false);
        }
        while (made < CALLS && !differs) {
            step();
        }
    }

    private void same(String call, Check.Call ours, Check.Call theirs) {
        made++;
        String got = Check.outcome(ours);
        String want = Check.outcome(theirs);
        trail.append(call).append(" -> ").append(want).append('\n');
        Check.due("run " + run + " call " + made + ": " + call, got, want);
        if (!got.equals(want)) {
            differs = true;
            System.out.println(trail);
        }
    }

    private int any(int bound) {
        return random.nextInt(bound);
    }

    private int place() {
        return any(25) == 0 ? any(2) == 0 ? -1 : 16 + any(3) : any(16);
    }

    private int pinner() {
        int size = model.count(0);
        return any(15) == 0 || size == 0 ? any(8) - 1 : any(size);
    }

    private int number(int least, int most) {
        return any(12) == 0 ? any(2) == 0 ? least - 1 - any(2) : most + 1 + any(2)
            : least + any(most - least + 1);
    }

    private void step() {
        int kind = any(100);
        if (kind < 6) {
            text(any(3) == 0 ? broken(skyText(), SKY_BITS) : skyText(), true);
        } else if (kind < 11) {
            text(any(3) == 0 ? broken(lawText(), LAW_BITS) : lawText(), false);
        } else if (kind < 50) {
            act();
        } else if (kind < 53) {
            tapes();
        } else {
            ask();
        }
    }

    private void feed(byte[] bytes) {
        for (int from = 0; from < bytes.length; from += 20) {
            int[] n = new int[5];
            for (int i = 0; i < 20; i++) {
                n[i / 4] = n[i / 4] << 8 | (from + i < bytes.length ? bytes[from + i] & 255 : any(256));
            }
            same("feed", () -> sky.feed(n[0], n[1], n[2], n[3], n[4]), () -> model.feed(n[0], n[1], n[2], n[3], n[4]));
        }
        same("end " + bytes.length, () -> sky.end(bytes.length), () -> model.end(bytes.length));
    }

    private void text(String text, boolean ofSky) {
        feed(text.getBytes(StandardCharsets.ISO_8859_1));
        trail.append("  text: ").append(text).append('\n');
        if (ofSky) {
            same("sky", () -> sky.sky(), () -> model.sky());
        } else {
            same("law", () -> sky.law(), () -> model.law());
        }
        same("fault", () -> sky.fault(), () -> model.fault());
    }

    private void tapes() {
        if (any(2) == 0) {
            int n = any(500) - 20;
            same("end " + n, () -> sky.end(n), () -> model.end(n));
        } else {
            int times = any(25);
            for (int i = 0; i < times; i++) {
                int n = random.nextInt();
                same("feed", () -> sky.feed(n, n, n, n, n), () -> model.feed(n, n, n, n, n));
            }
        }
        if (any(3) == 0) {
            same("sky", () -> sky.sky(), () -> model.sky());
            same("fault", () -> sky.fault(), () -> model.fault());
        }
    }

    private void act() {
        int a = pinner();
        int p = place();
        switch (any(14)) {
            case 0, 1 -> same("pin " + a, () -> sky.pin(a), () -> model.pin(a));
            case 2 -> same("change " + a, () -> sky.change(a), () -> model.change(a));
            case 3, 4 -> same("go " + a + " " + p, () -> sky.go(a, p), () -> model.go(a, p));
            case 5 -> same("pull " + p, () -> sky.pull(p), () -> model.pull(p));
            case 6, 7 -> {
                int n = any(3) == 0 ? number(1, 30) : 1 + any(4);
                same("hand " + a + " " + n, () -> sky.hand(a, n), () -> model.hand(a, n));
            }
            case 8 -> same("fell " + p, () -> sky.fell(p), () -> model.fell(p));
            case 9 -> {
                int n = number(1, 40);
                same("height " + n, () -> sky.height(n), () -> model.height(n));
            }
            case 10 -> {
                int n = any(4) == 0 ? number(1, 60) : 1 + any(5);
                same("days " + n, () -> sky.days(n), () -> model.days(n));
            }
            case 11 -> {
                int n = any(3) == 0 ? random.nextInt() : any(9);
                same("seed " + n, () -> sky.seed(n), () -> model.seed(n));
            }
            case 12 -> same("undo", () -> sky.undo(), () -> model.undo());
            default -> image();
        }
    }

    private void image() {
        if (any(3) == 0) {
            sky.image();
            model.image();
            made++;
            trail.append("image\n");
        } else if (any(2) == 0) {
            same("back", () -> sky.back(), () -> model.back());
        }
    }

    private void ask() {
        int p = place();
        int q = place();
        int a = pinner();
        boolean flag = any(2) == 0;
        int n = any(3) == 0 ? number(0, 60) : any(9);
        switch (any(32)) {
            case 0 -> {
                int what = number(0, 9);
                same("place " + p + " " + what, () -> sky.place(p, what), () -> model.place(p, what));
            }
            case 1 -> {
                int what = number(0, 2);
                same("pinner " + a + " " + what, () -> sky.pinner(a, what), () -> model.pinner(a, what));
            }
            case 2 -> same("rusts " + p, () -> sky.rusts(p), () -> model.rusts(p));
            case 3 -> same("low", () -> sky.low(), () -> model.low());
            case 4 -> same("held", () -> sky.held(), () -> model.held());
            case 5 -> same("gives " + flag, () -> sky.gives(flag), () -> model.gives(flag));
            case 6 -> same("weakest", () -> sky.weakest(), () -> model.weakest());
            case 7 -> same("key", () -> sky.key(), () -> model.key());
            case 8 -> {
                int set = any(3) == 0 ? random.nextInt() : 1 << any(17) | 1 << any(17);
                same("fewest " + set, () -> sky.fewest(set), () -> model.fewest(set));
            }
            case 9 -> same("first", () -> sky.first(), () -> model.first());
            case 10 -> same("spare", () -> sky.spare(), () -> model.spare());
            case 11 -> {
                int set = any(3) == 0 ? random.nextInt() : any(4) == 0 ? 0 : 1 << any(17) | 1 << any(17);
                same("round " + a + " " + set + " " + flag, () -> sky.round(a, set, flag),
                    () -> model.round(a, set, flag));
            }
            case 12, 13 -> goes();
            case 14 -> {
                int days = any(2) == 0 ? number(0, 20) : any(3);
                same("before " + days, () -> sky.before(days), () -> model.before(days));
            }
            case 15, 16 -> heights();
            case 17 -> same("duke", () -> sky.duke(), () -> model.duke());
            case 18 -> {
                int less = number(0, model.count(4) - 1);
                same("pay " + less, () -> sky.pay(less), () -> model.pay(less));
            }
            case 19 -> same("season", () -> sky.season(), () -> model.season());
            case 20 -> same("best", () -> sky.best(), () -> model.best());
            case 21 -> same("lasts", () -> sky.lasts(), () -> model.lasts());
            case 22 -> same("stars " + p + " " + q, () -> sky.stars(p, q), () -> model.stars(p, q));
            case 23 -> same("longest", () -> sky.longest(), () -> model.longest());
            case 24 -> same("ahead " + p + " " + n + " " + flag, () -> sky.ahead(p, n, flag),
                () -> model.ahead(p, n, flag));
            case 25 -> {
                int days = number(0, 6);
                int k = number(0, 6);
                same("odds " + days + " " + k, () -> sky.odds(days, k), () -> model.odds(days, k));
            }
            case 26 -> same("needs " + n, () -> sky.needs(n), () -> model.needs(n));
            case 27 -> same("trial " + n + " " + flag, () -> sky.trial(n, flag), () -> model.trial(n, flag));
            case 28 -> same("span " + n + " " + flag, () -> sky.span(n, flag), () -> model.span(n, flag));
            case 29 -> same("led " + p + " " + flag, () -> sky.led(p, flag), () -> model.led(p, flag));
            case 30 -> {
                int ago = number(0, 59);
                int what = number(0, 3);
                same("log " + ago + " " + what, () -> sky.log(ago, what), () -> model.log(ago, what));
                int late = any(4);
                same("log " + late + " " + what, () -> sky.log(late, what), () -> model.log(late, what));
            }
            default -> {
                int what = number(0, 11);
                same("count " + what, () -> sky.count(what), () -> model.count(what));
            }
        }
    }

    private void goes() {
        int size = Math.max(0, model.count(0) + (any(10) == 0 ? any(3) - 1 : 0));
        byte[] bytes = new byte[size];
        for (int i = 0; i < size; i++) {
            bytes[i] = (byte) (any(30) == 0 ? any(256) : any(16));
        }
        feed(bytes);
        int a = any(2) == 0 ? -1 : pinner();
        same("goes " + a, () -> sky.goes(a), () -> model.goes(a));
    }

    private void heights() {
        int pairs = any(12) == 0 ? 18 + any(4) : any(4);
        byte[] bytes = new byte[Math.max(0, 2 * pairs - (any(15) == 0 ? 1 : 0))];
        for (int i = 0; i < bytes.length; i += 2) {
            int place = any(16);
            bytes[i] = (byte) (any(30) == 0 ? any(256) : place);
            if (i + 1 < bytes.length) {
                bytes[i + 1] = (byte) (any(4) == 0 ? any(41) : model.place(place, 8));
            }
        }
        feed(bytes);
        int kind = any(3);
        if (kind == 2) {
            same("climb", () -> sky.climb(), () -> model.climb());
        } else {
            same("seen " + kind, () -> sky.seen(kind == 1), () -> model.seen(kind == 1));
        }
    }

    private String skyText() {
        if (any(12) == 0) {
            return " ".repeat(any(3));
        }
        StringBuilder text = new StringBuilder();
        int lines = 1 + any(any(8) == 0 ? 16 : 8);
        for (int i = 0; i < lines; i++) {
            text.append(i == 0 ? "" : any(3) == 0 ? " ; " : ";").append(skyLine());
        }
        return cut(any(5) == 0 ? text + " " : text.toString());
    }

    private String skyLine() {
        int p = any(60) == 0 ? 16 : any(16);
        switch (any(14)) {
            case 0, 1, 2:
                return "pin " + p + (any(2) == 0 ? "" : " rust " + any(any(30) == 0 ? 120 : 75));
            case 3:
                return "ground " + p + " " + any(10);
            case 4, 5:
                return "need " + p + " " + any(21);
            case 6:
                return "tree " + p + " " + any(10);
            case 7:
                return "bare " + p;
            case 8, 9:
                return "pinner " + p + " pace " + (1 + any(9)) + " brass " + any(31);
            case 10:
                return "height " + (1 + any(40));
            case 11:
                return "tight " + any(10);
            case 12:
                return (any(2) == 0 ? "gale " : "moths ") + any(101);
            default:
                return "stock " + any(any(2) == 0 ? 1000 : 30);
        }
    }

    private String lawText() {
        if (any(12) == 0) {
            return " ".repeat(any(3));
        }
        StringBuilder text = new StringBuilder();
        int lines = 1 + any(any(8) == 0 ? 14 : 5);
        for (int i = 0; i < lines; i++) {
            text.append(i == 0 ? "" : any(3) == 0 ? " ; " : ";");
            switch (any(5)) {
                case 0, 1 -> text.append("strain ").append(any(any(30) == 0 ? 33 : 31));
                case 2, 3 -> text.append("rust ").append(any(6));
                default -> text.append("hold");
            }
            if (any(4) != 0) {
                text.append(" if ").append(condition(any(6) == 0 ? any(10) : any(3)));
            }
        }
        return cut(text.toString());
    }

    /** A text of the tape is 400 bytes at most; what is cut off may make it wrong, which is fine. */
    private static String cut(String text) {
        return text.length() > 400 ? text.substring(0, 400) : text;
    }

    private String condition(int depth) {
        StringBuilder text = new StringBuilder(atom(depth));
        int more = any(3);
        for (int i = 0; i < more; i++) {
            text.append(any(2) == 0 ? " and " : " or ").append(atom(depth));
        }
        return text.toString();
    }

    private String atom(int depth) {
        if (depth > 0 && any(2) == 0) {
            return any(2) == 0 ? "not " + atom(depth - 1) : "(" + condition(depth - 1) + ")";
        }
        switch (any(6)) {
            case 0:
                return "pinned";
            case 1:
                return "laddered";
            default:
                return sum() + (any(2) == 0 ? "<" : " > ") + sum();
        }
    }

    private String sum() {
        String[] parts = {"place", "tree", "rust", "ground", "gap", "day", "gap", "rust"};
        StringBuilder text = new StringBuilder();
        int more = any(3);
        for (int i = 0; i <= more; i++) {
            text.append(i == 0 ? "" : "+").append(any(3) == 0 ? "" + any(40) : parts[any(parts.length)]);
        }
        return text.toString();
    }

    /** Puts, drops or changes something somewhere. */
    private String broken(String text, String[] bits) {
        StringBuilder changed = new StringBuilder(text);
        int times = 1 + any(2);
        for (int i = 0; i < times; i++) {
            int at = any(changed.length() + 1);
            switch (any(4)) {
                case 0 -> changed.insert(at, bits[any(bits.length)]);
                case 1 -> changed.insert(at, (char) any(256));
                case 2 -> changed.setLength(at);
                default -> {
                    int to = Math.min(changed.length(), at + 1 + any(3));
                    changed.replace(at, to, any(2) == 0 ? "" : bits[any(bits.length)]);
                }
            }
        }
        return cut(changed.toString());
    }
}
