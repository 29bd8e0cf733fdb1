import java.lang.reflect.InvocationTargetException;
import java.lang.reflect.Method;
import java.util.ArrayList;
import java.util.Arrays;
import java.util.HashMap;
import java.util.List;
import java.util.Map;
import java.util.Random;

/** Long runs of calls, the same each time, answered as PlainLibrary answers them. */
public final class RandomRunsTest {
    private static final int RUNS = 600;
    private static final int CALLS = 512;

    // How often a call comes, and what its arguments are: h handle, m member, r room, k kind, n days, s sheet,
    // i place in a sheet, w what, f fines, v wear, l loan, b bits, z size, x any number.
    private static final String[] CALL = {
        "6 handle krr", "6 of hw", "5 set hwr", "3 set hwv", "3 turn hk", "2 as hk", "5 leads hr",
        "2 pair hh", "3 member r", "4 about mw", "2 place mwr", "1 place mwf", "2 loan l", "16 lend hm", "5 back h",
        "14 use mh", "6 days n", "4 now w", "5 on mnw", "3 late h", "5 reach m", "5 way mr", "5 next mr",
        "6 wanted mr", "8 two mr", "5 meet mm", "5 kind mh", "5 least mn", "4 uses hr", "1 feed xn", "1 wipe",
        "1 house", "2 sheet sbz", "5 write six", "3 write sir", "3 copy sisii", "1 lays s", "2 book sm", "4 read sm",
        "1 image", "1 undo", "1 tear", "3 count w", "2 status w"};

    private static final List<String> WORDS = List.of("handle", "brass", "bone", "rope", "knob", "latch", "member",
        "loan", "from", "to", "wear", "at", ";", " ", "  ", "0", "7", "15", "16", "30", "31", "99", "100", "1000", "x", "!", "A", "\t");

    private final Random random;
    private final Check check;
    private final Map<String, Method> methods = new HashMap<>();
    private HandleLoans real;
    private PlainLibrary plain;
    private int calls;

    private RandomRunsTest(long seed, Check check) {
        random = new Random(seed);
        this.check = check;
        for (Method m : HandleLoans.class.getDeclaredMethods()) {
            methods.put(m.getName(), m);
        }
    }

    public static void main(String[] args) throws ReflectiveOperationException {
        Check check = new Check();
        for (int run = 0; run < RUNS; run++) {
            new RandomRunsTest(run, check).run(run);
        }
        check.end();
    }

    private void run(int run) throws ReflectiveOperationException {
        real = new HandleLoans();
        plain = new PlainLibrary();
        List<String> bag = new ArrayList<>();
        for (String c : CALL) {
            String[] parts = c.split(" ", 2);
            bag.addAll(java.util.Collections.nCopies(Integer.parseInt(parts[0]), parts[1]));
        }
        // Some runs are in a small house, where handles meet; some come to the last day.
        int rooms = run % 3 == 0 ? 16 : 5;
        if (run % 20 == 7) {
            for (int i = 0; i < 166; i++) {
                ask(run, "days", 60);
            }
        }
        for (int i = 0; i < 4; i++) {
            ask(run, "member", random.nextInt(rooms));
            ask(run, "handle", random.nextInt(6), random.nextInt(rooms), random.nextInt(rooms));
        }
        while (calls < CALLS) {
            if (random.nextInt(40) == 0) {
                feedText(run);
            }
            String[] call = bag.get(random.nextInt(bag.size())).split(" ");
            String kinds = call.length > 1 ? call[1] : "";
            long[] a = new long[kinds.length()];
            for (int i = 0; i < a.length; i++) {
                a[i] = argument(kinds.charAt(i), rooms);
            }
            ask(run, call[0], a);
        }
    }

    private long argument(char kind, int rooms) {
        if (random.nextInt(60) == 0) {
            long[] edges = {-1, -2, 0, 6, 8, 16, 31, 40, 41, 60, 61, 99, 100, 9999, 10000, Integer.MAX_VALUE, Integer.MIN_VALUE};
            return edges[random.nextInt(edges.length)];
        }
        switch (kind) {
            case 'h': return random.nextInt(Math.max(1, real.count(0)));
            case 'm': return random.nextInt(Math.max(1, real.count(2)));
            case 'r': return random.nextInt(8) == 0 ? random.nextInt(16) : random.nextInt(rooms);
            case 'k': return random.nextInt(6);
            case 'n': return random.nextInt(3) == 0 ? random.nextInt(61) : random.nextInt(6);
            case 's': return random.nextInt(4);
            case 'i': return random.nextInt(7);
            case 'w': return random.nextInt(9);
            case 'f': return random.nextBoolean() ? random.nextInt(10000) : 9990 + random.nextInt(10);
            case 'v': return random.nextInt(100);
            case 'l': return random.nextInt(2) == 0 ? random.nextInt(31) : random.nextInt(4);
            case 'b': return new int[] {0, 8, 16, 64, 8, 16, 64, 32}[random.nextInt(8)];
            case 'z': return random.nextInt(2) == 0 ? random.nextInt(5) : random.nextInt(44) - 2;
            default: return random.nextLong() >> random.nextInt(64);
        }
    }

    private void feedText(int run) throws ReflectiveOperationException {
        StringBuilder text = new StringBuilder();
        int items = random.nextInt(4) + 1;
        for (int i = 0; i < items; i++) {
            text.append(i > 0 ? random.nextBoolean() ? ";" : " ; " : "");
            int which = random.nextInt(3);
            if (which == 0) {
                text.append(WORDS.get(random.nextInt(6))).append(" from ").append(random.nextInt(17)).append(" to ").append(random.nextInt(16));
                text.append(random.nextBoolean() ? " wear " + random.nextInt(102) : "");
            } else if (which == 1) {
                text.append("member").append(random.nextBoolean() ? " at " + random.nextInt(17) : "");
            } else {
                text.append("loan ").append(random.nextInt(32));
            }
        }
        if (random.nextInt(3) == 0) {
            int at = random.nextInt(text.length() + 1);
            int to = Math.min(text.length(), at + random.nextInt(3));
            text.replace(at, to, WORDS.get(random.nextInt(WORDS.size())));
        }
        ask(run, "wipe");
        int at = 0;
        while (at < text.length()) {
            int n = Math.min(1 + random.nextInt(4), text.length() - at);
            int bytes = random.nextInt();
            for (int i = 0; i < n; i++) {
                bytes = bytes << 8 | text.charAt(at + i);
            }
            ask(run, "feed", bytes, n);
            at += n;
        }
        ask(run, "house");
    }

    private void ask(int run, String name, long... a) throws ReflectiveOperationException {
        calls++;
        Method m = methods.get(name);
        Object[] given = new Object[a.length];
        for (int i = 0; i < a.length; i++) {
            if (m.getParameterTypes()[i] == int.class) {
                a[i] = (int) a[i];
                given[i] = (int) a[i];
            } else {
                given[i] = a[i];
            }
        }
        String call = "run " + run + ", call " + calls + ": " + name + Arrays.toString(a);
        long want = plain.answer(name, a);
        try {
            check.due(call, ((Number) m.invoke(real, given)).longValue(), want);
        } catch (InvocationTargetException e) {
            System.out.println(call + " threw " + e.getCause());
            check.due(call, 0, 1);
        }
    }
}
