import java.util.ArrayList;
import java.util.HashMap;
import java.util.List;
import java.util.Map;
import java.util.TreeSet;
import java.util.regex.Matcher;
import java.util.regex.Pattern;

/**
 * The document once more, word for word and day by day, with Java's library and without thrift:
 * RandomRunsTest compares the answers of HandleLoans with the answers of this one.
 */
final class PlainLibrary {
    private static final int[] ABOVE = {-1, 0, 0, 0, 1, 2};
    private static final List<String> NAMES = List.of("handle", "brass", "bone", "rope", "knob", "latch");

    private static final class Finding extends RuntimeException {
        private static final long serialVersionUID = 1L;
        final int number;

        Finding(int number) {
            super(null, null, false, false);
            this.number = number;
        }
    }

    /** Everything that section 1 tells. */
    private static final class World {
        int day;
        int loan = 5;
        final List<int[]> handles = new ArrayList<>();
        final List<int[]> members = new ArrayList<>();

        World twin() {
            World t = new World();
            t.day = day;
            t.loan = loan;
            for (int[] h : handles) {
                t.handles.add(h.clone());
            }
            for (int[] m : members) {
                t.members.add(m.clone());
            }
            return t;
        }

        boolean late(int[] h) {
            return h[4] >= 0 && h[5] > loan;
        }

        int moved(int[] h, int kind) {
            switch (kind) {
                case 0: return late(h) ? h[5] - loan : 0;
                case 2: return 2 * moved(h, 0);
                case 4: return 0;
                default: return moved(h, ABOVE[kind]);
            }
        }

        int end(int[] h) {
            return Math.floorMod(h[2] + moved(h, h[0]), 16);
        }

        boolean opens(int[] h, int kind, int r) {
            switch (kind) {
                case 0: return (r == h[1] || r == end(h)) && h[3] < 99;
                case 1: return opens(h, 0, r) && h[3] < 50;
                case 2: return opens(h, 0, r) && r == h[1];
                case 3: return day % 2 == 1 ? opens(h, 0, r) && r == h[1] : opens(h, 0, r);
                case 4: return opens(h, 1, r) || (h[1] + 8) % 16 == r && h[3] < 10;
                default: return opens(h, 2, r) || r == end(h) && late(h) && h[3] < 99;
            }
        }

        int leads(int[] h, int r) {
            return r != end(h) ? end(h) : h[1];
        }

        int wears(int kind) {
            switch (kind) {
                case 0: return 1;
                case 1: return wears(0);
                case 2: return 2 * wears(0);
                case 3: return wears(0) + 2;
                case 4: return wears(1) - (day % 3 == 0 ? 1 : 0);
                default: return wears(2) + 1;
            }
        }

        boolean pair(int[] a, int[] b) {
            return Math.min(a[1], a[2]) == Math.min(b[1], b[2]) && Math.max(a[1], a[2]) == Math.max(b[1], b[2]);
        }

        List<Integer> held(int member) {
            List<Integer> held = new ArrayList<>();
            for (int i = 0; i < handles.size(); i++) {
                if (handles.get(i)[4] == member) {
                    held.add(i);
                }
            }
            return held;
        }

        void day() {
            for (int[] h : handles) {
                h[5] += h[4] >= 0 ? 1 : 0;
            }
            for (int[] h : handles) {
                if (late(h)) {
                    int[] m = members.get(h[4]);
                    m[1] = Math.min(9999, m[1] + 1);
                }
            }
            day++;
        }

        World on(int n) {
            World t = twin();
            for (int i = 0; i < n; i++) {
                t.day();
            }
            return t;
        }

        /** The fewest uses to every room that can be come to. */
        Map<Integer, Integer> distances(int member, int start) {
            Map<Integer, Integer> far = new HashMap<>();
            far.put(start, 0);
            for (int round = 0; round < 20; round++) {
                for (int r : new ArrayList<>(far.keySet())) {
                    for (int i : held(member)) {
                        if (opens(handles.get(i), handles.get(i)[0], r)) {
                            far.merge(leads(handles.get(i), r), far.get(r) + 1, Math::min);
                        }
                    }
                }
            }
            return far;
        }

        TreeSet<Integer> reach(int member) {
            return new TreeSet<>(distances(member, members.get(member)[0]).keySet());
        }

        int lend(int handle, int member) {
            if (handles.get(handle)[4] >= 0) {
                throw new Finding(5);
            }
            if (held(member).size() >= 3) {
                throw new Finding(2);
            }
            for (int i : held(member)) {
                if (pair(handles.get(i), handles.get(handle))) {
                    throw new Finding(3);
                }
            }
            handles.get(handle)[4] = member;
            return held(member).size();
        }

        boolean comesWith(int member, int room, int... lent) {
            World t = twin();
            try {
                for (int h : lent) {
                    t.lend(h, member);
                }
            } catch (Finding f) {
                return false;
            }
            return t.reach(member).contains(room);
        }
    }

    private World world = new World();
    private World image;
    private String tape = "";
    private final long[][] sheets = new long[4][];
    private final int[] bits = new int[4];
    private final int[] told = new int[8];

    /** Answers a call by its name. */
    long answer(String name, long... a) {
        World before = world.twin();
        try {
            int[] v = new int[7];
            for (int i = 0; i < a.length; i++) {
                v[i] = (int) a[i];
            }
            return name.equals("write") ? write(v[0], v[1], a[2]) : call(name, v);
        } catch (Finding f) {
            world = before;
            told[f.number]++;
            return -1000000000 - f.number;
        }
    }

    private long call(String name, int[] v) {
        switch (name) {
            case "handle": case "of": case "set": case "turn": case "as": case "leads": case "pair":
            case "late": case "uses": case "back":
                return aboutHandles(name, v[0], v[1], v[2]);
            case "member": case "about": case "place": case "on": case "reach": case "way": case "next":
            case "wanted": case "two": case "meet": case "kind": case "least": case "lend": case "use":
                return aboutMembers(name, v[0], v[1], v[2]);
            case "sheet": case "copy": case "lays": case "book": case "read":
                return aboutSheets(name, v);
            default:
                return aboutTheRest(name, v[0], v[1]);
        }
    }

    private static void within(long v, long least, long most) {
        if (v < least || v > most) {
            throw new Finding(1);
        }
    }

    private int[] handleNo(int h) {
        within(h, 0, world.handles.size() - 1);
        return world.handles.get(h);
    }

    private int[] memberNo(int m) {
        within(m, 0, world.members.size() - 1);
        return world.members.get(m);
    }

    private static void unless(boolean fine, int finding) {
        if (!fine) {
            throw new Finding(finding);
        }
    }

    private static int bitsOf(Iterable<Integer> set) {
        int all = 0;
        for (int i : set) {
            all |= 1 << i;
        }
        return all;
    }

    private long aboutHandles(String name, int a, int b, int c) {
        if (name.equals("handle")) {
            within(a, 0, 5);
            within(b, 0, 15);
            within(c, 0, 15);
            unless(world.handles.size() < 8, 2);
            world.handles.add(new int[] {a, b, c, 0, -1, 0});
            return world.handles.size() - 1;
        }
        int[] h = handleNo(a);
        switch (name) {
            case "of": {
                within(b, 0, 8);
                return b < 6 ? h[b] : b == 6 ? (world.late(h) ? 1 : 0) : b == 7 ? world.end(h) : world.wears(h[0]);
            }
            case "set": {
                within(b, 1, 3);
                within(c, 0, b == 3 ? 99 : 15);
                int was = h[b];
                h[b] = c;
                return was;
            }
            case "turn": {
                within(b, 0, 5);
                int was = h[0];
                h[0] = b;
                return was;
            }
            case "as": {
                within(b, 0, 5);
                int k = h[0];
                while (k >= 0 && k != b) {
                    k = ABOVE[k];
                }
                unless(k == b, 3);
                return h[3];
            }
            case "leads": {
                within(b, 0, 15);
                unless(world.opens(h, h[0], b), 4);
                return world.leads(h, b);
            }
            case "pair": {
                int[] other = handleNo(b);
                unless(a != b, 1);
                return world.pair(h, other) ? 1 : 0;
            }
            case "late": {
                for (int d = 0; d <= 60; d++) {
                    World t = world.on(d);
                    if (t.late(t.handles.get(a))) {
                        return d;
                    }
                }
                throw new Finding(4);
            }
            case "uses": {
                within(b, 0, 15);
                World t = world.twin();
                int[] g = t.handles.get(a);
                int at = b;
                for (int used = 0; used < 99; used++) {
                    if (!t.opens(g, g[0], at)) {
                        return used;
                    }
                    at = t.leads(g, at);
                    g[3] = Math.min(99, g[3] + t.wears(g[0]));
                }
                return 99;
            }
            default: {
                unless(h[4] >= 0, 5);
                int was = h[5];
                h[4] = -1;
                h[5] = 0;
                return was;
            }
        }
    }

    private long aboutMembers(String name, int a, int b, int c) {
        if (name.equals("member")) {
            within(a, 0, 15);
            unless(world.members.size() < 6, 2);
            world.members.add(new int[] {a, 0});
            return world.members.size() - 1;
        }
        if (name.equals("lend")) {
            handleNo(a);
            memberNo(b);
            return world.lend(a, b);
        }
        int[] m = memberNo(a);
        switch (name) {
            case "about": {
                within(b, 0, 3);
                if (b < 2) {
                    return m[b];
                }
                List<Integer> held = world.held(a);
                if (b == 3) {
                    held.removeIf(i -> !world.opens(world.handles.get(i), world.handles.get(i)[0], m[0]));
                }
                return bitsOf(held);
            }
            case "place": {
                within(b, 0, 1);
                within(c, 0, b == 0 ? 15 : 9999);
                int was = m[b];
                m[b] = c;
                return was;
            }
            case "use": {
                int[] h = handleNo(b);
                unless(h[4] == a && world.opens(h, h[0], m[0]), 5);
                m[0] = world.leads(h, m[0]);
                h[3] = Math.min(99, h[3] + world.wears(h[0]));
                return m[0];
            }
            case "on": {
                within(b, 0, 60);
                within(c, 0, 1);
                World t = world.on(b);
                return c == 0 ? t.members.get(a)[1] : bitsOf(t.reach(a));
            }
            case "reach": return bitsOf(world.reach(a));
            case "least": {
                within(b, 0, 60);
                for (int loan = 0; loan <= 30; loan++) {
                    World t = world.twin();
                    t.loan = loan;
                    if (t.on(b).members.get(a)[1] <= m[1]) {
                        return loan;
                    }
                }
                throw new Finding(4);
            }
            case "meet": {
                memberNo(b);
                unless(a != b, 1);
                for (int d = 0; d <= 60; d++) {
                    World t = world.on(d);
                    TreeSet<Integer> both = t.reach(a);
                    both.retainAll(t.reach(b));
                    if (!both.isEmpty()) {
                        return d;
                    }
                }
                throw new Finding(4);
            }
            case "kind": {
                int[] h = handleNo(b);
                unless(h[4] == a, 5);
                int best = -1;
                int most = -1;
                for (int k = 5; k >= 0; k--) {
                    World t = world.twin();
                    t.handles.get(b)[0] = k;
                    if (t.reach(a).size() >= most) {
                        most = t.reach(a).size();
                        best = k;
                    }
                }
                return best;
            }
            default: {
                within(b, 0, 15);
                return toRoom(name, a, b);
            }
        }
    }

    private long toRoom(String name, int m, int room) {
        int at = world.members.get(m)[0];
        Map<Integer, Integer> far = world.distances(m, at);
        int n = world.handles.size();
        switch (name) {
            case "way": {
                unless(far.containsKey(room), 4);
                return far.get(room);
            }
            case "next": {
                unless(at != room, 5);
                unless(far.containsKey(room), 4);
                for (int i : world.held(m)) {
                    int[] h = world.handles.get(i);
                    if (world.opens(h, h[0], at)) {
                        Integer rest = world.distances(m, world.leads(h, at)).get(room);
                        if (rest != null && rest + 1 == far.get(room)) {
                            return i;
                        }
                    }
                }
                throw new IllegalStateException("a way without a first use");
            }
            case "wanted": {
                unless(!far.containsKey(room), 5);
                for (int i = 0; i < n; i++) {
                    if (world.comesWith(m, room, i)) {
                        return i;
                    }
                }
                throw new Finding(4);
            }
            default: {
                unless(!far.containsKey(room), 5);
                for (int i = 0; i < n; i++) {
                    for (int j = i + 1; j < n; j++) {
                        if (world.comesWith(m, room, i, j)) {
                            return 10 * i + j;
                        }
                    }
                }
                throw new Finding(4);
            }
        }
    }

    private void sheetIs(int s) {
        unless(sheets[s] != null, 6);
    }

    private static long cut(int bits, long v) {
        return v << (64 - bits) >> (64 - bits);
    }

    private long write(int s, int i, long v) {
        within(s, 0, 3);
        sheetIs(s);
        within(i, 0, sheets[s].length - 1);
        long was = sheets[s][i];
        sheets[s][i] = cut(bits[s], v);
        return was;
    }

    private long aboutSheets(String name, int[] v) {
        int s = v[0];
        within(s, 0, 3);
        if (name.equals("sheet")) {
            unless(List.of(0, 8, 16, 64).contains(v[1]), 1);
            unless(v[2] >= 0, 7);
            within(v[2], 0, 40);
            bits[s] = v[1];
            sheets[s] = v[1] == 0 ? null : new long[v[2]];
            return v[1] == 0 ? 0 : v[2];
        }
        if (name.equals("copy")) {
            within(v[2], 0, 3);
            sheetIs(s);
            sheetIs(v[2]);
            unless(bits[s] == bits[v[2]], 3);
            within(v[1], 0, 40);
            within(v[3], 0, 40);
            within(v[4], 0, 40);
            within(v[1] + v[4], 0, sheets[s].length);
            within(v[3] + v[4], 0, sheets[v[2]].length);
            long[] old = sheets[s].clone();
            for (int i = 0; i < v[4]; i++) {
                sheets[v[2]][v[3] + i] = old[v[1] + i];
            }
            return v[4];
        }
        sheetIs(s);
        long[] row = sheets[s];
        if (name.equals("lays")) {
            int came = 0;
            for (int i = 0; i < row.length; i++) {
                if (i < world.handles.size() && row[i] >= 0 && row[i] <= 99) {
                    world.handles.get(i)[3] = (int) row[i];
                    came++;
                }
            }
            return came;
        }
        int[] m = memberNo(v[1]);
        if (name.equals("book")) {
            for (int d = 0; d < row.length; d++) {
                row[d] = cut(bits[s], world.on(d).members.get(v[1])[1]);
            }
            return row.length;
        }
        for (int i = 0; i < row.length; i++) {
            boolean fine = i == 0 && row[0] == m[0];
            for (int h : world.held(v[1])) {
                int[] g = world.handles.get(h);
                fine |= i > 0 && world.opens(g, g[0], (int) row[i - 1])
                        && world.leads(g, (int) row[i - 1]) == row[i];
            }
            if (!fine) {
                return 1 + i;
            }
        }
        return 0;
    }

    private int setOf(boolean lateOnly) {
        List<Integer> set = new ArrayList<>();
        for (int i = 0; i < world.handles.size(); i++) {
            int[] h = world.handles.get(i);
            if (lateOnly ? world.late(h) : h[4] >= 0) {
                set.add(i);
            }
        }
        return bitsOf(set);
    }

    private int fines() {
        return world.members.stream().mapToInt(m -> m[1]).sum();
    }

    private long aboutTheRest(String name, int a, int b) {
        switch (name) {
            case "loan": {
                within(a, 0, 30);
                int was = world.loan;
                world.loan = a;
                return was;
            }
            case "days": {
                within(a, 1, 60);
                unless(world.day + a <= 9999, 5);
                world = world.on(a);
                return fines();
            }
            case "now": {
                within(a, 0, 5);
                int wear = world.handles.stream().mapToInt(h -> h[3]).sum();
                return new int[] {world.day, fines(), setOf(false), setOf(true), wear, world.loan}[a];
            }
            case "feed": {
                within(b, 1, 4);
                unless(tape.length() + b <= 120, 2);
                String all = "" + (char) (a >>> 24) + (char) (a >>> 16 & 255) + (char) (a >>> 8 & 255) + (char) (a & 255);
                tape += all.substring(4 - b);
                return tape.length();
            }
            case "wipe": {
                int had = tape.length();
                tape = "";
                return had;
            }
            case "house": {
                World grown = world.twin();
                int items = house(grown);
                tape = "";
                world = items >= 0 ? grown : world;
                return items;
            }
            case "image": {
                image = world.twin();
                return 1;
            }
            case "undo": {
                unless(image != null, 4);
                world = image.twin();
                return world.handles.size();
            }
            case "tear": {
                int was = image == null ? 0 : 1;
                image = null;
                return was;
            }
            case "count": {
                within(a, 0, 3);
                int pairs = 0;
                for (int[] g : world.handles) {
                    for (int[] h : world.handles) {
                        pairs += g != h && world.pair(g, h) ? 1 : 0;
                    }
                }
                return new int[] {world.handles.size(), tape.length(), world.members.size(), pairs / 2}[a];
            }
            case "status": {
                within(a, -1, 6);
                int all = 0;
                for (int t : told) {
                    all += t;
                }
                return a < 0 ? all : told[a + 1];
            }
            default:
                throw new IllegalStateException(name);
        }
    }

    /** Each token leads from one state to another. */
    private int house(World grown) {
        Matcher tokens = Pattern.compile("[a-z]+|[0-9]+|[^ ]", Pattern.DOTALL).matcher(tape);
        String state = "item";
        int items = 0;
        while (tokens.find()) {
            String next = after(state, tokens.group(), grown);
            if (next == null) {
                return -1 - tokens.start();
            }
            if (next.equals("item")) {
                items++;
            }
            state = next;
        }
        return List.of("to#", "wear#", "member", "at#", "loan#").contains(state) ? items + 1 : -1 - tape.length();
    }

    /** The state behind a token, or null if it can't stand there. */
    private static String after(String state, String token, World grown) {
        switch (state) {
            case "item":
                if (NAMES.contains(token) && grown.handles.size() < 8) {
                    grown.handles.add(new int[] {NAMES.indexOf(token), 0, 0, 0, -1, 0});
                    return "kind";
                }
                if (token.equals("member") && grown.members.size() < 6) {
                    grown.members.add(new int[2]);
                    return "member";
                }
                return token.equals("loan") ? "loan" : null;
            case "kind": return token.equals("from") ? "from" : null;
            case "from": return number(token, 15, grown, 1) ? "from#" : null;
            case "from#": return token.equals("to") ? "to" : null;
            case "to": return number(token, 15, grown, 2) ? "to#" : null;
            case "to#": return token.equals("wear") ? "wear" : token.equals(";") ? "item" : null;
            case "wear": return number(token, 99, grown, 3) ? "wear#" : null;
            case "member": return token.equals("at") ? "at" : token.equals(";") ? "item" : null;
            case "at": return number(token, 15, grown, 4) ? "at#" : null;
            case "loan": return number(token, 30, grown, 5) ? "loan#" : null;
            default: return token.equals(";") ? "item" : null;
        }
    }

    private static boolean number(String token, int most, World grown, int where) {
        if (!token.matches("[0-9]+") || new java.math.BigInteger(token).compareTo(java.math.BigInteger.valueOf(most)) > 0) {
            return false;
        }
        int v = new java.math.BigInteger(token).intValue();
        if (where == 5) {
            grown.loan = v;
        } else if (where == 4) {
            grown.members.get(grown.members.size() - 1)[0] = v;
        } else {
            grown.handles.get(grown.handles.size() - 1)[where] = v;
        }
        return true;
    }
}
