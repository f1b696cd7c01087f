import java.lang.management.ManagementFactory;
import java.lang.reflect.InvocationTargetException;
import java.lang.reflect.Method;
import java.lang.reflect.Modifier;
import java.util.Arrays;
import java.util.Comparator;
import java.util.List;
import java.util.Random;
import java.util.Set;

/** Any argument in any state: a call throws only what its face tells, leaves all as it was then, and makes nothing. */
public final class RobustTest {
    private static final int[] EXTREMES = {Integer.MIN_VALUE, Integer.MIN_VALUE + 1, -65536, -17, -2, -1, 0, 1, 2, 3, 4,
        5, 6, 7, 9, 10, 11, 12, 15, 16, 17, 20, 21, 30, 31, 32, 39, 40, 41, 59, 60, 61, 100, 400, 401, 65535, 65536,
        Integer.MAX_VALUE - 1, Integer.MAX_VALUE};
    private static final String[] TEXTS = {"", "pin 1 rust 59;pin 2;pin 15 rust 20;gale 50;moths 50",
        "pinner 0 pace 9 brass 30;pinner 15 pace 1 brass 0;pinner 7 pace 3 brass 3;stock 999",
        "need 0 20;need 15 20;need 7 9;ground 7 9;tree 1 9;bare 0;bare 15", "height 40;tight 9", "height 1;tight 0",
        "pin 0;pin 3;pin 4;pin 5;pin 6;pin 7;pin 8;pin 9;pin 10;pin 11;pin 12;pin 13;pin 14"};
    private static final String[] LAWS = {"", "hold", "strain 30;strain 30 if gap<3;rust 3 if day>2 or not pinned",
        "rust 30;hold if place>7 and laddered"};

    private static final Set<String> READS_A_TEXT = Set.of("sky", "law");
    private static final Set<String> USES_THE_TAPE_UP = Set.of("sky", "law", "goes", "seen", "climb");
    private static final int MOST_CALLS = 512;
    private static final int CALLS_AHEAD_OF_A_REFUSED_ONE = 60;

    public static void main(String[] args) throws IllegalAccessException {
        Method[] methods = Arrays.stream(PinnedSky.class.getDeclaredMethods())
            .filter(method -> Modifier.isPublic(method.getModifiers()))
            .sorted(Comparator.comparing(Method::getName)).toArray(Method[]::new);
        for (int run = 0; run < 300; run++) {
            anyCalls(methods, new PinnedSky(), new Random(run), MOST_CALLS);
        }
        for (int run = 0; run < 3000; run++) {
            refusedCall(methods, run);
        }
        makesNothing();
        Check.finish("RobustTest");
    }

    /** So many calls, those that feed the tape counted: whatever is thrown is told in the face. */
    private static void anyCalls(Method[] methods, PinnedSky sky, Random random, int calls)
            throws IllegalAccessException {
        int made = 0;
        while (made < calls) {
            if (random.nextInt(6) == 0) {
                String[] texts = random.nextBoolean() ? TEXTS : LAWS;
                String text = texts[random.nextInt(texts.length)];
                made += (text.length() + 19) / 20 + 1;
                if (made < calls) {
                    Check.tape(sky, text);
                }
            } else {
                made++;
                outcome(methods[random.nextInt(methods.length)], sky, random);
            }
        }
    }

    /** What the call threw, or null. */
    private static Class<?> outcome(Method method, PinnedSky sky, Random random) throws IllegalAccessException {
        Object[] values = new Object[method.getParameterCount()];
        for (int k = 0; k < values.length; k++) {
            values[k] = method.getParameterTypes()[k] == boolean.class ? (Object) random.nextBoolean()
                : (Object) EXTREMES[random.nextInt(EXTREMES.length)];
        }
        try {
            method.invoke(sky, values);
            return null;
        } catch (InvocationTargetException e) {
            List<Class<?>> told = Arrays.asList(method.getExceptionTypes());
            Check.due(method.getName() + Arrays.toString(values) + " may throw " + e.getCause(),
                told.contains(e.getCause().getClass()), true);
            return e.getCause().getClass();
        }
    }

    /** A call that throws changes nothing but the tape, where it is used up: as a twin without that call. */
    private static void refusedCall(Method[] methods, int run) throws IllegalAccessException {
        PinnedSky sky = new PinnedSky();
        PinnedSky twin = new PinnedSky();
        int ahead = run % CALLS_AHEAD_OF_A_REFUSED_ONE;
        anyCalls(methods, sky, new Random(run), ahead);
        anyCalls(methods, twin, new Random(run), ahead);
        Random random = new Random(-1 - run);
        Method method = methods[random.nextInt(methods.length)];
        if (outcome(method, sky, random) == null) {
            return;
        }
        if (USES_THE_TAPE_UP.contains(method.getName())) {
            twin.end(0);
        }
        String due = State.toTheEnd(twin);
        String got = State.toTheEnd(sky);
        if (READS_A_TEXT.contains(method.getName())) {
            // fault() alone tells of the wrong text
            due = due.replaceFirst("fault -?[0-9]+", "");
            got = got.replaceFirst("fault -?[0-9]+", "");
        }
        Check.due("all behind " + method.getName() + " that threw in run " + run, got, due);
    }

    /** The room is one for all calls of a run: calls that do not throw make no object. */
    private static void makesNothing() {
        com.sun.management.ThreadMXBean bean =
            (com.sun.management.ThreadMXBean) ManagementFactory.getThreadMXBean();
        PinnedSky[] skies = new PinnedSky[10];
        for (int i = 0; i < skies.length; i++) {
            skies[i] = Check.sky("pin 1 rust 20;pin 5;pin 11;need 3 19;need 9 12;pinner 2 pace 3 brass 30;stock 50",
                "strain 2 if gap<5;rust 1 if (day>2 or not laddered);hold if place<2");
            allCalls(skies[i]);
        }
        long before = bean.getCurrentThreadAllocatedBytes();
        for (PinnedSky sky : skies) {
            for (int i = 0; i < 5; i++) {
                allCalls(sky);
            }
        }
        long made = bean.getCurrentThreadAllocatedBytes() - before;
        if (made > 20_000) {
            Check.due("bytes made by 50 times all calls", made, 0L);
        }
    }

    private static int allCalls(PinnedSky sky) {
        int sum = sky.feed(0x686f6c64, 0x20696620, 0x676170, 0x3c333030, 0x20202020);
        sky.end(4);
        sum += sky.law() + sky.fault() + sky.low() + sky.held() + sky.gives(true) + sky.weakest() + sky.key();
        sum += sky.fewest(-1) + sky.first() + sky.spare() + sky.round(0, 77, true) + sky.before(2) + sky.duke();
        sum += sky.seen(true) + sky.climb() + sky.pay(3) + sky.season() + sky.best() + sky.lasts();
        sum += sky.stars(1, 5) + sky.longest() + sky.ahead(3, 9, true) + sky.odds(4, 2) + sky.needs(9);
        sum += sky.trial(20, true) + sky.span(9, true) + sky.led(3, true) + sky.log(0, 1) + sky.count(9);
        sky.image();
        sum += sky.go(0, 3) + sky.pin(0) + sky.change(0) + sky.pull(3) + sky.hand(0, 1) + sky.fell(2) + sky.height(9);
        sum += sky.days(7) + (sky.undo() ? 1 : 0) + (sky.back() ? 1 : 0) + sky.place(3, 8) + sky.rusts(5);
        sky.feed(0x05000000, 0, 0, 0, 0);
        sky.end(1);
        return sum + sky.goes(0);
    }
}
