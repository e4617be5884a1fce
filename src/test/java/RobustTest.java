import java.lang.management.ManagementFactory;
import java.lang.reflect.InvocationTargetException;
import java.lang.reflect.Method;
import java.util.Arrays;
import java.util.Comparator;
import java.util.Random;

/**
 * Any call with any arguments in any state: none throws, none but 0 in STATUS gives anything but
 * NONE or false, and none makes objects once the house stands.
 */
public final class RobustTest {
    private static final int[] EDGES = {Integer.MIN_VALUE, Integer.MIN_VALUE + 1, -65536, -1000, -2, -1, 0, 1, 2, 3, 4,
        5, 6, 7, 8, 9, 10, 11, 15, 16, 17, 20, 21, 31, 32, 59, 60, 61, 63, 64, 99, 100, 255, 256, 299, 300, 301, 899,
        900, 901, 1023, 1024, 9980, 9999, 10000, Integer.MAX_VALUE - 1, Integer.MAX_VALUE};
    private static final String[] WORDS = {"power ", "odds ", "room ", "wire ", " from ", " to ", " slack ", "couple ",
        " he ", " she ", " love ", "day ", "damp", "dry", "mend ", "cut ", "any", "when ", "rung ", "parted ", "loop ",
        "end", "stop", ";", ";", ";", "<", ">", "=", "a", "b", "c", "1", "2", "9", "16", "99", "12345", "!", "\n"};
    private static final String[] HOUSES = {
        "power 5;room a;room b;room c;wire u from a to b;wire v from b to c slack 3;couple m he a she c love 3;"
            + "couple n he b she a love 4;",
        "room a;room b;room c;room d;room e;room f;room g;room h;odds 9;wire p from a to b slack 1;wire q from b to c;"
            + "wire r from c to d slack 2;wire s from d to e;wire t from e to f;wire u from f to g slack 1;"
            + "wire v from g to h;wire w from h to a;wire x from a to e slack 4;wire y from c to g slack 4;"
            + "couple i he a she e love 9;couple j he b she f love 9;couple k he c she g love 8;couple l he d she h love 7;"
            + "couple m he e she b love 9;couple n he h she d love 9;"};
    private static final String[] YEARS = {
        "loop 99; day 40; any; damp; day 39; mend u; dry; end;",
        "loop 50; when rung m; cut v; end; any; mend v; end; day 3; when parted n; stop; end; loop 99; loop 99; end; end;"};
    private static int wrong = 0;

    public static void main(String[] args) throws Exception {
        Method[] calls = BellPullHouse.class.getDeclaredMethods();
        calls = Arrays.stream(calls).filter(m -> java.lang.reflect.Modifier.isPublic(m.getModifiers()))
            .sorted(Comparator.comparing(Method::toString)).toArray(Method[]::new);
        long made = 0;
        for (int seed = 0; seed < 300; seed++) {
            made += run(calls, new Random(seed));
        }
        System.out.println(made + " calls without a throw, " + wrong + " wrong");
        long bytes = bytesOfManyCalls();
        System.out.println(bytes + " bytes were made by 5,000 calls");
        if (wrong != 0 || bytes > 100000) {
            System.exit(1);
        }
    }

    private static int run(Method[] calls, Random r) throws Exception {
        BellPullHouse x = new BellPullHouse();
        int made = 0;
        while (made < 512) {
            Method m = calls[r.nextInt(calls.length)];
            if (r.nextInt(25) == 0) {
                made += text(x, r.nextBoolean() ? HOUSES[r.nextInt(2)] : YEARS[r.nextInt(2)], r);
                continue;
            }
            Object[] a = new Object[m.getParameterCount()];
            for (int i = 0; i < a.length; i++) {
                Class<?> type = m.getParameterTypes()[i];
                int v = r.nextInt(3) == 0 ? EDGES[r.nextInt(EDGES.length)] : r.nextInt(9);
                a[i] = type == boolean.class ? (Object) r.nextBoolean() : type == long.class ? (Object) r.nextLong() : (Object) v;
            }
            call(x, m, a);
            made++;
        }
        return made;
    }

    private static void call(BellPullHouse x, Method m, Object[] a) throws Exception {
        String what = m.getName() + Arrays.toString(a);
        try {
            Object got = m.invoke(x, a);
            int status = x.status();
            boolean hasNone = java.util.List.of("status", "fault", "feed", "top", "bottom").contains(m.getName());
            boolean isNone = got.equals(-1) || got.equals(-1L) || got.equals(false);
            if (!hasNone && (status < 0 || status > 11 || status != 0 && !isNone || status == 0 && got.equals(-1))) {
                wrong++;
                System.out.println(what + " answered " + got + " with STATUS " + status);
            }
        } catch (InvocationTargetException e) {
            wrong++;
            System.out.println(what + " threw " + e.getCause());
        }
        if (x.bottom() < 1 || x.top() < 0) {
            wrong++;
            System.out.println(what + ": the fraction is " + x.top() + " by " + x.bottom());
        }
    }

    private static int text(BellPullHouse x, String whole, Random r) {
        StringBuilder s = new StringBuilder(whole);
        if (r.nextInt(3) == 0) {
            s.setLength(0);
            for (int i = r.nextInt(60); i > 0; i--) {
                s.append(WORDS[r.nextInt(WORDS.length)]);
            }
        }
        if (r.nextInt(6) == 0 && s.length() > 0) {
            s.setCharAt(r.nextInt(s.length()), (char) r.nextInt(256));
        }
        int made = feed(x, s.toString());
        if (whole == HOUSES[0] || whole == HOUSES[1]) {
            x.house(Math.min(900, s.length()));
        } else {
            x.years(Math.min(300, s.length()));
        }
        return made + 1;
    }

    private static int feed(BellPullHouse x, String s) {
        int made = 0;
        for (int i = 0; i < s.length() && i < 900; i += 20) {
            int[] five = new int[5];
            for (int j = 0; j < 20; j++) {
                five[j / 4] = five[j / 4] << 8 | (i + j < s.length() ? s.charAt(i + j) & 255 : ' ');
            }
            x.feed(five[0], five[1], five[2], five[3], five[4]);
            made++;
        }
        return made;
    }

    /** All calls of one run share one room, so rows are made once, in the constructor. */
    private static long bytesOfManyCalls() {
        com.sun.management.ThreadMXBean threads = (com.sun.management.ThreadMXBean) ManagementFactory.getThreadMXBean();
        long id = Thread.currentThread().getId();
        long least = Long.MAX_VALUE;
        for (int again = 0; again < 3; again++) {
            BellPullHouse x = new BellPullHouse();
            feed(x, HOUSES[1]);
            x.house(HOUSES[1].length());
            long before = threads.getThreadAllocatedBytes(id);
            for (int i = 0; i < 250; i++) {
                dear(x, i);
            }
            least = Math.min(least, threads.getThreadAllocatedBytes(id) - before);
        }
        return least;
    }

    private static void dear(BellPullHouse x, int i) {
        x.feed(0x616e793b, 0x64617920, 0x333b616e, 0x793b2020, 0x20202020);
        x.years(18);
        x.game(3);
        x.moveOf(3);
        x.mends(63);
        x.mendSet(i & 63);
        x.cuts(0, 4);
        x.cutSet(1, 5);
        x.lasts(i % 6);
        x.pair(i % 6);
        x.swapped();
        x.mark();
        x.live(i);
        x.mean(i, 20);
        x.partsIn(i % 6);
        x.silentIn(i % 6);
        x.loveIn(i % 6, 300);
        x.vital();
        x.back();
        x.way(0, 5, 1);
    }
}
