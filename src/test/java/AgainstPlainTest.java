import java.lang.reflect.Method;
import java.util.Random;

/** Runs of random calls, told to the class and to Plain, which goes through all in the plainest way. */
public final class AgainstPlainTest {
    /** c CAR, x CROSSING, s SECTION, w what, t TICK, m how many, n up to 60, e EVENT, k, v speed, l long. */
    private static final String[] CALLS = {
        "fault w", "split c", "split c", "start t", "start n", "broken cnm", "broken ctm", "mended ", "undo ", "undo ",
        "go n", "go n", "go n", "go t", "again ", "car cw", "car cw", "car cw", "crossing xw", "crossing xw", "crossing xw",
        "section sw", "section sw", "event ew", "event ew", "event ew", "need sx", "pass sxt", "open xt", "window xkw",
        "window xew", "end ", "where ct", "where cn", "waits t", "waits n", "stretch w", "fewest ", "best kw", "bestStart nw",
        "harm cnm", "harm ctm", "smooth n", "held cw", "slowest t", "longest x", "marshals v", "price ll", "count w",
    };

    private final Random random;
    private final RandomTexts texts;
    private ConvoyTown town = new ConvoyTown();
    private Plain plain = new Plain();
    private String log = "";
    private long made;

    private AgainstPlainTest(long seed) {
        random = new Random(seed);
        texts = new RandomTexts(seed + 1);
    }

    private int argument(char kind) {
        if (random.nextInt(40) == 0) {
            int[] odd = {Integer.MIN_VALUE, Integer.MAX_VALUE, -1, -2, -100, 2000, 2001, 1999, 61, 60, 1000, 999, 500, 501, 32, 31};
            return odd[random.nextInt(odd.length)];
        }
        switch (kind) {
            case 'c': return random.nextInt(plain.count(5) + 1);
            case 'x': return random.nextInt(plain.count(4) + 1);
            case 's': return random.nextInt(plain.count(6) + 1);
            case 'e': return random.nextInt(plain.count(11) + 2);
            case 'w': return random.nextInt(9);
            case 't': return random.nextInt(2001);
            case 'm': return 1 + random.nextInt(random.nextInt(4) == 0 ? 500 : 40);
            case 'n': return random.nextInt(61);
            case 'k': return random.nextInt(5) - 1;
            default: return 1 + random.nextInt(50);
        }
    }

    private long longArgument() {
        switch (random.nextInt(4)) {
            case 0: return random.nextInt(10) - 1;
            case 1: return Long.MAX_VALUE / (1 + random.nextInt(3000)) - random.nextInt(3);
            case 2: return random.nextLong();
            default: return random.nextInt(1000000);
        }
    }

    private void both(String name, Object[] arguments, boolean longs) throws Exception {
        Class<?>[] types = new Class<?>[arguments.length];
        StringBuilder call = new StringBuilder(name).append('(');
        for (int i = 0; i < types.length; i++) {
            types[i] = longs ? long.class : int.class;
            call.append(i == 0 ? "" : ", ").append(arguments[i]);
        }
        call.append(')');
        log += " " + call;
        Method theirs = ConvoyTown.class.getMethod(name, types);
        Method due = Plain.class.getDeclaredMethod(name, types);
        long got = ((Number) theirs.invoke(town, arguments)).longValue();
        long want = ((Number) due.invoke(plain, arguments)).longValue();
        made++;
        if (got != want) {
            System.out.println("behind" + log + "\n  answered " + got + ", due is " + want);
            System.exit(1);
        }
    }

    private void tell(String text) throws Exception {
        log += "\n  tell \"" + text + "\"";
        byte[] bytes = Checks.bytes(text);
        for (int from = 0; from < bytes.length; from += 20) {
            int[] f = Checks.five(bytes, from);
            both("feed", new Object[] {f[0], f[1], f[2], f[3], f[4]}, false);
        }
        both("tell", new Object[] {Math.min(bytes.length, plain.count(13))}, false);
        both("fault", new Object[] {0}, false);
        both("fault", new Object[] {1}, false);
    }

    private void call(String which) throws Exception {
        String name = which.substring(0, which.indexOf(' '));
        String kinds = which.substring(which.indexOf(' ') + 1);
        Object[] arguments = new Object[kinds.length()];
        for (int i = 0; i < arguments.length; i++) {
            arguments[i] = kinds.charAt(i) == 'l' ? (Object) longArgument() : (Object) argument(kinds.charAt(i));
        }
        both(name, arguments, kinds.startsWith("l"));
    }

    private void lookAtAll() throws Exception {
        for (int what = 0; what < 15; what++) {
            both("count", new Object[] {what}, false);
        }
        for (int car = 0; car < plain.count(5); car++) {
            both("car", new Object[] {car, 0}, false);
            both("car", new Object[] {car, 3}, false);
        }
        for (int crossing = 0; crossing < plain.count(4); crossing++) {
            for (int what = 0; what < 8; what++) {
                both("crossing", new Object[] {crossing, what}, false);
            }
        }
        for (int event = 0; event <= plain.count(11); event++) {
            for (int what = 0; what < 4; what++) {
                both("event", new Object[] {event, what}, false);
            }
        }
    }

    private void oneRun(int mostCars, int calls) throws Exception {
        town = new ConvoyTown();
        plain = new Plain();
        log = "";
        String text = texts.next(mostCars);
        for (int i = 0; i < 3; i++) {
            tell(texts.spoil(text));
        }
        tell(text);
        for (int i = 0; i < calls; i++) {
            call(CALLS[random.nextInt(CALLS.length)]);
        }
        lookAtAll();
    }

    public static void main(String[] args) throws Exception {
        int runs = args.length > 0 ? Integer.parseInt(args[0]) : 150;
        long seed = args.length > 1 ? Long.parseLong(args[1]) : 1;
        AgainstPlainTest test = new AgainstPlainTest(seed);
        for (int i = 0; i < runs; i++) {
            test.oneRun(i % 10 == 9 ? 30 : 7, 60);
        }
        System.out.println("all " + test.made + " answers are as in the plain run");
    }
}
