/** Promises 1 to 12: a new object, handles, members. */
public final class HandlesMembersTest {
    private static final Check CHECK = new Check();

    public static void main(String[] args) {
        newObject();
        newHandles();
        ofAndSet();
        turnAndAs();
        leadsByKind();
        leadsWhenLate();
        pairs();
        members();
        place();
        loan();
        CHECK.end();
    }

    private static void newObject() {
        HandleLoans x = new HandleLoans();
        for (int what = 0; what <= 3; what++) {
            CHECK.due("new: count(" + what + ")", x.count(what), 0);
        }
        for (int what = 0; what <= 4; what++) {
            CHECK.due("new: now(" + what + ")", x.now(what), 0);
        }
        CHECK.due("new: now(5)", x.now(5), 5);
        CHECK.due("new: status(-1)", x.status(-1), 0);
        CHECK.due("new: tear()", x.tear(), 0);
        CHECK.due("new: wipe()", x.wipe(), 0);
        CHECK.due("new: undo()", x.undo(), Check.NONE);
        for (int s = 0; s < 4; s++) {
            CHECK.due("new: lays(" + s + ")", x.lays(s), Check.MISSING);
        }
    }

    private static void newHandles() {
        HandleLoans x = new HandleLoans();
        CHECK.due("handle kind -1", x.handle(-1, 0, 0), Check.BEYOND);
        CHECK.due("handle kind 6", x.handle(6, 0, 0), Check.BEYOND);
        CHECK.due("handle from -1", x.handle(0, -1, 0), Check.BEYOND);
        CHECK.due("handle from 16", x.handle(0, 16, 0), Check.BEYOND);
        CHECK.due("handle to -1", x.handle(0, 0, -1), Check.BEYOND);
        CHECK.due("handle to 16", x.handle(0, 0, 16), Check.BEYOND);
        for (int h = 0; h < 8; h++) {
            CHECK.due("handle " + h, x.handle(h % 6, h, 15), h);
        }
        CHECK.due("a 9th", x.handle(0, 0, 0), Check.FULL);
        CHECK.due("a wrong 9th", x.handle(6, 0, 0), Check.BEYOND);
        CHECK.due("count(0)", x.count(0), 8);
    }

    private static void ofAndSet() {
        HandleLoans x = new HandleLoans();
        CHECK.due("of no handle", x.of(0, 0), Check.BEYOND);
        x.handle(5, 3, 9);
        x.handle(1, 2, 2);
        int[] first = {5, 3, 9, 0, -1, 0, 0, 9, 3};
        for (int what = 0; what < first.length; what++) {
            CHECK.due("of(0, " + what + ")", x.of(0, what), first[what]);
        }
        CHECK.due("of(-1, 0)", x.of(-1, 0), Check.BEYOND);
        CHECK.due("of(2, 0)", x.of(2, 0), Check.BEYOND);
        CHECK.due("of(0, -1)", x.of(0, -1), Check.BEYOND);
        CHECK.due("of(0, 9)", x.of(0, 9), Check.BEYOND);
        x.member(0);
        x.lend(0, 0);
        x.days(7);
        int[] later = {5, 3, 9, 0, 0, 7, 1, 13, 3};
        for (int what = 0; what < later.length; what++) {
            CHECK.due("later of(0, " + what + ")", x.of(0, what), later[what]);
        }
        CHECK.due("set from", x.set(0, 1, 15), 3);
        CHECK.due("set to", x.set(0, 2, 14), 9);
        CHECK.due("set wear", x.set(0, 3, 99), 0);
        CHECK.due("from", x.of(0, 1), 15);
        CHECK.due("to", x.of(0, 2), 14);
        CHECK.due("wear", x.of(0, 3), 99);
        CHECK.due("end goes round", x.of(0, 7), 2);
        CHECK.due("set what 0", x.set(0, 0, 1), Check.BEYOND);
        CHECK.due("set what 4", x.set(0, 4, 1), Check.BEYOND);
        CHECK.due("set no handle", x.set(2, 1, 1), Check.BEYOND);
        CHECK.due("set from 16", x.set(0, 1, 16), Check.BEYOND);
        CHECK.due("set to -1", x.set(0, 2, -1), Check.BEYOND);
        CHECK.due("set wear 100", x.set(0, 3, 100), Check.BEYOND);
        CHECK.due("set wear -1", x.set(0, 3, -1), Check.BEYOND);
        CHECK.due("from stays", x.of(0, 1), 15);
        CHECK.due("wear may be 16", x.set(0, 3, 16), 99);
    }

    private static void turnAndAs() {
        HandleLoans x = new HandleLoans();
        CHECK.due("turn no handle", x.turn(0, 0), Check.BEYOND);
        CHECK.due("as no handle", x.as(0, 0), Check.BEYOND);
        x.handle(0, 1, 2);
        x.set(0, 3, 7);
        CHECK.due("turn to -1", x.turn(0, -1), Check.BEYOND);
        CHECK.due("turn to 6", x.turn(0, 6), Check.BEYOND);
        CHECK.due("as -1", x.as(0, -1), Check.BEYOND);
        CHECK.due("as 6", x.as(0, 6), Check.BEYOND);
        // Rows: the kind; columns: as one of which kind.
        String[] isOf = {"100000", "110000", "101000", "100100", "110010", "101001"};
        int[] wears = {1, 1, 2, 3, 0, 3};
        int was = 0;
        for (int k = 0; k < 6; k++) {
            CHECK.due("turn to " + k, x.turn(0, k), was);
            was = k;
            CHECK.due("kind " + k, x.of(0, 0), k);
            CHECK.due("wears as " + k, x.of(0, 8), wears[k]);
            for (int as = 0; as < 6; as++) {
                long want = isOf[k].charAt(as) == '1' ? 7 : Check.KIND;
                CHECK.due("kind " + k + " as " + as, x.as(0, as), want);
            }
        }
        CHECK.due("turn to the same", x.turn(0, 5), 5);
        x.turn(0, 4);
        int[] knobWears = {0, 1, 1, 0, 1};
        for (int day = 0; day < knobWears.length; day++) {
            CHECK.due("knob wears on day " + day, x.of(0, 8), knobWears[day]);
            x.days(1);
        }
    }

    /** The rooms from which handle 0 leads, as a set; each answer is looked at, too. */
    private static int openRooms(HandleLoans x, int from, int end) {
        int open = 0;
        for (int r = 0; r < 16; r++) {
            int to = x.leads(0, r);
            if (to != Check.NONE) {
                CHECK.due("leads from " + r, to, r == end ? from : end);
                open |= 1 << r;
            }
        }
        return open;
    }

    private static void opensAt(HandleLoans x, int kind, int wear, int end, int... rooms) {
        x.turn(0, kind);
        x.set(0, 3, wear);
        int want = 0;
        for (int r : rooms) {
            want |= 1 << r;
        }
        CHECK.due("kind " + kind + ", wear " + wear + " opens in", openRooms(x, 10, end), want);
    }

    private static void leadsByKind() {
        HandleLoans x = new HandleLoans();
        CHECK.due("leads, no handle", x.leads(0, 0), Check.BEYOND);
        x.handle(0, 10, 3);
        CHECK.due("leads from -1", x.leads(0, -1), Check.BEYOND);
        CHECK.due("leads from 16", x.leads(0, 16), Check.BEYOND);
        opensAt(x, 0, 98, 3, 10, 3);
        opensAt(x, 0, 99, 3);
        opensAt(x, 1, 49, 3, 10, 3);
        opensAt(x, 1, 50, 3);
        opensAt(x, 2, 98, 3, 10);
        opensAt(x, 2, 99, 3);
        opensAt(x, 3, 98, 3, 10, 3);
        opensAt(x, 3, 99, 3);
        opensAt(x, 4, 9, 3, 10, 3, 2);
        opensAt(x, 4, 10, 3, 10, 3);
        opensAt(x, 4, 50, 3);
        opensAt(x, 5, 98, 3, 10);
        opensAt(x, 5, 99, 3);
        x.days(1);
        opensAt(x, 3, 0, 3, 10);
        opensAt(x, 0, 0, 3, 10, 3);
        x.set(0, 2, 2);
        x.turn(0, 4);
        CHECK.due("knob whose end is opposite", x.leads(0, 2), 10);
        x.set(0, 2, 10);
        CHECK.due("from and end are one", x.leads(0, 10), 10);
    }

    private static void leadsWhenLate() {
        HandleLoans x = new HandleLoans();
        x.handle(0, 10, 3);
        x.member(0);
        x.lend(0, 0);
        x.days(5);
        opensAt(x, 0, 0, 3, 10, 3);
        opensAt(x, 5, 0, 3, 10);
        x.days(3);
        opensAt(x, 0, 0, 6, 10, 6);
        opensAt(x, 1, 0, 6, 10, 6);
        opensAt(x, 2, 0, 9, 10);
        opensAt(x, 3, 0, 6, 10, 6);
        opensAt(x, 4, 0, 3, 10, 3, 2);
        opensAt(x, 5, 98, 9, 10, 9);
        opensAt(x, 5, 99, 9);
        x.days(1);
        opensAt(x, 3, 0, 7, 10);
        x.days(3);
        x.turn(0, 0);
        CHECK.due("end comes to from", x.leads(0, 10), 10);
        x.back(0);
        CHECK.due("end is to again", x.of(0, 7), 3);
    }

    private static void pairs() {
        HandleLoans x = new HandleLoans();
        x.handle(0, 1, 2);
        CHECK.due("pair with none", x.pair(0, 1), Check.BEYOND);
        CHECK.due("none with one", x.pair(-1, 0), Check.BEYOND);
        CHECK.due("pair with itself", x.pair(0, 0), Check.BEYOND);
        x.handle(4, 2, 1);
        x.handle(5, 1, 2);
        x.handle(0, 1, 1);
        x.handle(0, 2, 2);
        CHECK.due("in the other order", x.pair(0, 1), 1);
        CHECK.due("in the same order", x.pair(0, 2), 1);
        CHECK.due("one room is the same", x.pair(0, 3), 0);
        CHECK.due("the other is", x.pair(4, 0), 0);
        CHECK.due("neither", x.pair(3, 4), 0);
        CHECK.due("count(3)", x.count(3), 3);
        // Lateness moves END, not TO: what was told makes the pair.
        x.member(0);
        x.lend(0, 0);
        x.days(9);
        CHECK.due("a late one", x.pair(0, 1), 1);
    }

    private static void members() {
        HandleLoans x = new HandleLoans();
        CHECK.due("about nobody", x.about(0, 0), Check.BEYOND);
        CHECK.due("member at -1", x.member(-1), Check.BEYOND);
        CHECK.due("member at 16", x.member(16), Check.BEYOND);
        for (int m = 0; m < 6; m++) {
            CHECK.due("member " + m, x.member(15 - m), m);
            CHECK.due("at", x.about(m, 0), 15 - m);
            CHECK.due("fines", x.about(m, 1), 0);
        }
        CHECK.due("a 7th", x.member(0), Check.FULL);
        CHECK.due("a wrong 7th", x.member(16), Check.BEYOND);
        CHECK.due("count(2)", x.count(2), 6);
        x.handle(0, 0, 14);
        x.handle(2, 0, 14);
        x.handle(1, 14, 3);
        x.lend(2, 1);
        CHECK.due("holds", x.about(1, 2), 4);
        x.lend(0, 1);
        CHECK.due("holds more", x.about(1, 2), 5);
        CHECK.due("open", x.about(1, 3), 5);
        x.turn(0, 2);
        CHECK.due("open from the other side only", x.about(1, 3), 4);
        CHECK.due("another holds none", x.about(0, 2), 0);
        CHECK.due("about what -1", x.about(0, -1), Check.BEYOND);
        CHECK.due("about what 4", x.about(0, 4), Check.BEYOND);
        CHECK.due("about member 6", x.about(6, 0), Check.BEYOND);
    }

    private static void place() {
        HandleLoans x = new HandleLoans();
        CHECK.due("place nobody", x.place(0, 0, 0), Check.BEYOND);
        x.member(4);
        CHECK.due("place at", x.place(0, 0, 15), 4);
        CHECK.due("at", x.about(0, 0), 15);
        CHECK.due("place fines", x.place(0, 1, 9999), 0);
        CHECK.due("fines", x.about(0, 1), 9999);
        CHECK.due("place at 16", x.place(0, 0, 16), Check.BEYOND);
        CHECK.due("place at -1", x.place(0, 0, -1), Check.BEYOND);
        CHECK.due("place fines 10000", x.place(0, 1, 10000), Check.BEYOND);
        CHECK.due("place fines -1", x.place(0, 1, -1), Check.BEYOND);
        CHECK.due("place what 2", x.place(0, 2, 0), Check.BEYOND);
        CHECK.due("place what -1", x.place(0, -1, 0), Check.BEYOND);
        CHECK.due("fines stay", x.about(0, 1), 9999);
    }

    private static void loan() {
        HandleLoans x = new HandleLoans();
        CHECK.due("loan 30", x.loan(30), 5);
        CHECK.due("loan 0", x.loan(0), 30);
        CHECK.due("loan 31", x.loan(31), Check.BEYOND);
        CHECK.due("loan -1", x.loan(-1), Check.BEYOND);
        CHECK.due("now(5)", x.now(5), 0);
    }
}
