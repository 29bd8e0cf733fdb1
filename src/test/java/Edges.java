import java.lang.reflect.InvocationTargetException;
import java.lang.reflect.Method;
import java.util.ArrayList;
import java.util.Collections;
import java.util.HashMap;
import java.util.List;
import java.util.Map;

/**
 * One sentence of the document and the calls that stand on both sides of the edge that it names.
 * A call is told as a text ("lend 0 1"). What leads up to the edge is kept as a run of calls and done anew, on new
 * objects, for each row: on one object the row's call is made, on its twin it isn't, and then both are looked through.
 */
final class Edges {
    private static final int MOST_CALLS = 512;
    private static final long MARK = 0x0102030405060708L;
    private static final Map<String, Method> METHODS = new HashMap<>();

    static {
        for (Method m : HandleLoans.class.getDeclaredMethods()) {
            METHODS.put(m.getName(), m);
        }
    }

    /** A house with something of everything in it, so that a refused call has much that it could change. */
    private static final String[] FURNISHED = {
        "member 0", "member 3",
        "handle 0 0 1", "handle 1 1 2", "handle 2 2 3", "handle 3 3 0", "handle 4 8 5", "handle 5 5 4",
        "set 2 3 7", "lend 0 0", "lend 1 0", "lend 3 1", "image",
        "days 6", "use 0 0", "place 1 1 20", "loan 4",
        "sheet 0 8 2", "write 0 1 9", "sheet 1 16 3", "write 1 0 300", "sheet 2 64 1", "write 2 0 -5",
        "feed 1819238766 4", "feed 8247 2"};

    private final Check check;
    private final String sentence;
    private final List<String> run = new ArrayList<>();

    Edges(Check check, String sentence) {
        this.check = check;
        this.sentence = sentence;
    }

    /**
     * Members 0 (AT 2, FINES 2, holds 0 and 1) and 1 (AT 3, FINES 20, holds 3); handles 0 to 5, each of the kind of
     * its number; DAY 6, LOAN 4; an image of DAY 0; sheets of 8, 16 and 64 bits, and 3 that is missing; "loan 7".
     */
    static Edges furnished(Check check, String sentence) {
        return new Edges(check, sentence).with(FURNISHED);
    }

    /** Calls that lead up to the edge; none of them may be refused. */
    Edges with(String... calls) {
        Collections.addAll(run, calls);
        check.holds(sentence + ": none is refused of " + run, !replay().wasRefused);
        return this;
    }

    Edges with(int times, String call) {
        return with(Collections.nCopies(times, call).toArray(new String[0]));
    }

    Edges withText(String text) {
        return with(feeding(text));
    }

    private static String[] feeding(String text) {
        List<String> calls = new ArrayList<>();
        for (int at = 0; at < text.length(); at += 4) {
            int n = Math.min(4, text.length() - at);
            int bytes = 0;
            for (int i = 0; i < n; i++) {
                bytes = bytes << 8 | text.charAt(at + i);
            }
            calls.add("feed " + bytes + " " + n);
        }
        return calls.toArray(new String[0]);
    }

    /** An act that is allowed: it stays in the run. */
    Edges does(String call, long answer) {
        check.due(label(call), replay().ask(call), answer);
        run.add(call);
        return this;
    }

    /** An act that is tried and doesn't stay in the run: only what it answers counts. */
    Edges tries(String call, long answer) {
        if (isFinding(answer)) {
            return refuses(call, (int) answer);
        }
        check.due(label(call), replay().ask(call), answer);
        return this;
    }

    /** A question: it changes nothing, not even status(). */
    Edges asks(String call, long answer) {
        Run asked = replay();
        check.due(label(call), asked.ask(call), answer);
        compare(label(call), asked, replay(), 0);
        return this;
    }

    /** A text with a fault, on a tape that is empty: nothing has changed when it has been read. */
    Edges asksText(String text, long answer) {
        Run asked = replay();
        for (String call : feeding(text)) {
            asked.ask(call);
        }
        check.due(label("house of '" + text + "'"), asked.ask("house"), answer);
        compare(label("house of '" + text + "'"), asked, replay(), 0);
        return this;
    }

    /** A call that answers a finding: it changes nothing but status(), and that by this one. */
    Edges refuses(String call, int finding) {
        Run refused = replay();
        check.due(label(call), refused.ask(call), finding);
        compare(label(call), refused, replay(), finding);
        return this;
    }

    /** The argument told as # may be least to most: those just outside, and the farthest, are BEYOND. */
    Edges range(String call, int least, long atLeast, int most, long atMost) {
        tries(call.replace("#", "" + least), atLeast);
        tries(call.replace("#", "" + most), atMost);
        int[] outside = {least - 1, most + 1, Integer.MIN_VALUE, Integer.MAX_VALUE};
        for (int v : outside) {
            refuses(call.replace("#", "" + v), Check.BEYOND);
        }
        return this;
    }

    /** A call with any of some numbers in each of its places, on a new object and in a furnished house: it never throws. */
    static void answersAll(Check check, String name, int places, int[] numbers) {
        Edges house = furnished(check, "any arguments");
        int all = (int) Math.pow(numbers.length, places);
        for (int i = 0; i < all; i++) {
            StringBuilder call = new StringBuilder(name);
            int rest = i;
            for (int p = 0; p < places; p++) {
                call.append(' ').append(numbers[rest % numbers.length]);
                rest /= numbers.length;
            }
            new Run().ask(call.toString());
            house.replay().ask(call.toString());
        }
    }

    private String label(String call) {
        return sentence + ": after " + run + " " + call;
    }

    private static boolean isFinding(long answer) {
        return answer <= Check.BEYOND && answer >= Check.SIZE;
    }

    private Run replay() {
        Run made = new Run();
        for (String call : run) {
            made.ask(call);
        }
        return made;
    }

    private void compare(String label, Run asked, Run twin, int finding) {
        for (int which = -1; which <= 6; which++) {
            boolean counts = finding != 0 && (which == -1 || which == Check.BEYOND - finding);
            check.due(label + ", then status " + which,
                asked.ask("status " + which), twin.ask("status " + which) + (counts ? 1 : 0));
        }
        look(label, asked, twin, "count 1");
        lookAtSheets(label, asked, twin);
        lookAtTheHouse(label, asked, twin);
        look(label, asked, twin, "house");
        lookAtTheHouse(label, asked, twin);
        if (!isFinding(look(label, asked, twin, "undo"))) {
            lookAtTheHouse(label, asked, twin);
        }
        check.holds(label + ": at most 512 calls", asked.calls <= MOST_CALLS);
    }

    private void lookAtTheHouse(String label, Run asked, Run twin) {
        for (int what = 0; what <= 5; what++) {
            look(label, asked, twin, "now " + what);
        }
        long handles = look(label, asked, twin, "count 0");
        for (int h = 0; h < handles; h++) {
            for (int what = 0; what <= 5; what++) {
                look(label, asked, twin, "of " + h + " " + what);
            }
        }
        long members = look(label, asked, twin, "count 2");
        for (int m = 0; m < members; m++) {
            look(label, asked, twin, "about " + m + " 0");
            look(label, asked, twin, "about " + m + " 1");
        }
    }

    private void lookAtSheets(String label, Run asked, Run twin) {
        for (int s = 0; s < 4; s++) {
            int i = 0;
            while (i <= 40 && !isFinding(look(label, asked, twin, "write " + s + " " + i + " " + MARK))) {
                i++;
            }
            // What stays of the mark tells of how many bits the sheet is.
            look(label, asked, twin, "write " + s + " 0 0");
        }
    }

    private long look(String label, Run asked, Run twin, String question) {
        long want = twin.ask(question);
        check.due(label + ", then " + question, asked.ask(question), want);
        return want;
    }

    /** An object, and how often it was called. */
    private static final class Run {
        private final HandleLoans x = new HandleLoans();
        private int calls;
        private boolean wasRefused;

        long ask(String call) {
            calls++;
            String[] parts = call.split(" ");
            Method m = METHODS.get(parts[0]);
            Object[] given = new Object[parts.length - 1];
            for (int i = 0; i < given.length; i++) {
                long v = Long.parseLong(parts[i + 1]);
                if (m.getParameterTypes()[i] == int.class) {
                    given[i] = Math.toIntExact(v);
                } else {
                    given[i] = v;
                }
            }
            long answer = invoke(call, m, given);
            wasRefused |= isFinding(answer);
            return answer;
        }

        private long invoke(String call, Method m, Object[] given) {
            try {
                return ((Number) m.invoke(x, given)).longValue();
            } catch (InvocationTargetException e) {
                throw new AssertionError(call + " threw", e.getCause());
            } catch (IllegalAccessException e) {
                throw new AssertionError(call, e);
            }
        }
    }
}
