import java.lang.management.ManagementFactory;
import java.lang.reflect.InvocationTargetException;
import java.lang.reflect.Method;
import java.lang.reflect.Modifier;
import java.util.ArrayList;
import java.util.Arrays;
import java.util.Comparator;
import java.util.List;
import java.util.Random;

/** Any argument in any state: a call throws only what its face tells, leaves all as it was then, and makes nothing. */
public final class RobustTest {
    private static final int[] EXTREMES = {Integer.MIN_VALUE, Integer.MIN_VALUE + 1, -65536, -17, -2, -1, 0, 1, 2, 3, 4,
        5, 6, 7, 9, 10, 11, 12, 15, 16, 17, 20, 21, 30, 31, 32, 39, 40, 41, 59, 60, 61, 100, 400, 401, 65535, 65536,
        Integer.MAX_VALUE - 1, Integer.MAX_VALUE};
    private static final String[] TEXTS = {"", "pin 1 rust 59;pin 2;pin 15 rust 20;gale 50;moths 50",
        "pinner 0 pace 9 brass 30;pinner 15 pace 1 brass 0;pinner 7 pace 3 brass 3;stock 999",
        "need 0 20;need 15 20;need 7 9;ground 7 9;tree 1 9;bare 0;bare 15", "height 40;tight 9", "height 1;tight 0",
        "pin 0;pin 3;pin 4;pin 5;pin 6;pin 7;pin 8;pin 9;pin 10;pin 11;pin 12;pin 13;pin 14"};
    private static final String[] LAWS = {"", "hold", "strain 30;strain 30 if gap<3;rust 3 if day>2 or not pinned",
        "rust 30;hold if place>7 and laddered"};

    public static void main(String[] args) throws IllegalAccessException {
        Method[] methods = Arrays.stream(PinnedSky.class.getDeclaredMethods())
            .filter(method -> Modifier.isPublic(method.getModifiers()))
            .sorted(Comparator.comparing(Method::getName)).toArray(Method[]::new);
        for (int run = 0; run < 150; run++) {
            anyCalls(methods, new Random(run));
        }
        makesNothing();
        Check.finish("RobustTest");
    }

    private static void anyCalls(Method[] methods, Random random) throws IllegalAccessException {
        PinnedSky sky = new PinnedSky();
        for (int i = 0; i < 450; i++) {
            if (random.nextInt(12) == 0) {
                Check.tape(sky, TEXTS[random.nextInt(TEXTS.length)]);
            } else if (random.nextInt(12) == 0) {
                Check.tape(sky, LAWS[random.nextInt(LAWS.length)]);
            }
            Method method = methods[random.nextInt(methods.length)];
            Object[] values = new Object[method.getParameterCount()];
            for (int k = 0; k < values.length; k++) {
                values[k] = method.getParameterTypes()[k] == boolean.class ? (Object) random.nextBoolean()
                    : (Object) EXTREMES[random.nextInt(EXTREMES.length)];
            }
            String before = all(sky);
            try {
                method.invoke(sky, values);
            } catch (InvocationTargetException e) {
                List<Class<?>> told = Arrays.asList(method.getExceptionTypes());
                String call = method.getName() + Arrays.toString(values);
                Check.due(call + " may throw " + e.getCause(), told.contains(e.getCause().getClass()), true);
                Check.due("all behind " + call + " that threw", all(sky), before);
            }
        }
    }

    /** All that can be asked without the tape; fault is left out, as a wrong text tells it. */
    private static String all(PinnedSky sky) {
        List<Integer> all = new ArrayList<>();
        for (int what = 0; what < 12; what++) {
            all.add(sky.count(what));
        }
        for (int place = 0; place < 16; place++) {
            for (int what = 0; what < 10; what++) {
                all.add(sky.place(place, what));
            }
            all.add(sky.rusts(place));
        }
        for (int pinner = 0; pinner < sky.count(0); pinner++) {
            for (int what = 0; what < 3; what++) {
                all.add(sky.pinner(pinner, what));
            }
        }
        for (int ago = 0; ago < sky.count(10); ago++) {
            for (int what = 0; what < 4; what++) {
                all.add(sky.log(ago, what));
            }
        }
        for (int gales = 0; gales < 3; gales++) {
            all.add(sky.odds(2, gales));
        }
        int seed = sky.seed(1);
        sky.seed(seed);
        all.add(seed);
        return all.toString();
    }

    /** The room is one for all calls of a run: calls that do not throw make no object. */
    private static void makesNothing() {
        com.sun.management.ThreadMXBean bean =
            (com.sun.management.ThreadMXBean) ManagementFactory.getThreadMXBean();
        PinnedSky sky = Check.sky("pin 1 rust 20;pin 5;pin 11;need 3 19;need 9 12;pinner 2 pace 3 brass 30;stock 50",
            "strain 2 if gap<5;rust 1 if (day>2 or not laddered);hold if place<2");
        allCalls(sky);
        long before = bean.getCurrentThreadAllocatedBytes();
        for (int i = 0; i < 50; i++) {
            allCalls(sky);
        }
        long made = bean.getCurrentThreadAllocatedBytes() - before;
        if (made > 20_000) {
            Check.due("bytes made by 50 times all calls", made, 0L);
        }
    }

    private static int allCalls(PinnedSky sky) {
        int sum = sky.feed(0x686f6c64, 0x20696620, 0x676170, 0x3c333030, 0x20202020);
        sky.end(4);
        sum += sky.law() + sky.fault() + sky.low() + sky.held() + sky.gives(true) + sky.weakest() + sky.key();
        sum += sky.fewest(-1) + sky.first() + sky.spare() + sky.round(0, 77, true) + sky.before(2) + sky.duke();
        sum += sky.seen(true) + sky.climb() + sky.pay(3) + sky.season() + sky.best() + sky.lasts();
        sum += sky.stars(1, 5) + sky.longest() + sky.ahead(3, 9, true) + sky.odds(4, 2) + sky.needs(9);
        sum += sky.trial(20, true) + sky.span(9, true) + sky.led(3, true) + sky.log(0, 1) + sky.count(9);
        sky.image();
        sum += sky.go(0, 3) + sky.pin(0) + sky.change(0) + sky.pull(3) + sky.hand(0, 1) + sky.fell(2) + sky.height(9);
        sum += sky.days(7) + (sky.undo() ? 1 : 0) + (sky.back() ? 1 : 0) + sky.place(3, 8) + sky.rusts(5);
        sky.feed(0x05000000, 0, 0, 0, 0);
        sky.end(1);
        return sum + sky.goes(0);
    }
}
