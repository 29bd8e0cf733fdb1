/** The edges that sections 1 to 3 of "Terms" name, sentence by sentence. */
public final class EdgesOfTermsTest {
    private static final Check CHECK = new Check();

    public static void main(String[] args) {
        findings();
        sets();
        rooms();
        limits();
        late();
        moved();
        opensByWear();
        opensByRoom();
        leads();
        wears();
        pairs();
        lending();
        use();
        aDayGoes();
        fines();
        lastDay();
        on();
        reach();
        sheets();
        CHECK.end();
    }

    private static Edges sentence(String words) {
        return new Edges(CHECK, words);
    }

    /** One member in a room, who holds handle 0. */
    private static Edges held(String words, int kind, int from, int to, int room) {
        return sentence(words).with("handle " + kind + " " + from + " " + to, "member " + room, "lend 0 0");
    }

    private static void findings() {
        CHECK.due("BEYOND", new HandleLoans().reach(0), -1000000001);
        CHECK.due("NONE", new HandleLoans().undo(), -1000000004);
        CHECK.due("MISSING", new HandleLoans().lays(0), -1000000006);
        CHECK.due("MISSING in longs, too", new HandleLoans().write(0, 0, 0), -1000000006L);
        CHECK.due("BEYOND in longs, too", new HandleLoans().write(4, 0, 0), -1000000001L);
        CHECK.due("SIZE", new HandleLoans().sheet(0, 8, -1), -1000000007);
        HandleLoans x = new HandleLoans();
        for (int h = 0; h < 8; h++) {
            x.handle(0, 1, 2);
        }
        x.member(0);
        x.lend(0, 0);
        CHECK.due("FULL", x.handle(0, 0, 0), -1000000002);
        CHECK.due("KIND", x.lend(1, 0), -1000000003);
        CHECK.due("STATE", x.lend(0, 0), -1000000005);
    }

    private static void sets() {
        sentence("Sets are told by bits: the last handle and the last room")
            .with("member 15").with(7, "handle 0 0 0").with("handle 0 15 0", "lend 7 0")
            .asks("about 0 2", 128).asks("about 0 3", 128).asks("now 2", 128).asks("now 3", 0)
            .asks("reach 0", 32769)
            .with("loan 0", "days 1").asks("now 3", 128)
            .with("lend 0 0").asks("now 2", 129).asks("now 3", 128).asks("about 0 2", 129).asks("about 0 3", 128);
    }

    private static void rooms() {
        held("ROOMS are 0 to 15, round: END past 15", 0, 8, 14, 0).with("loan 0")
            .with("days 1").asks("of 0 7", 15).with("days 1").asks("of 0 7", 0).with("days 1").asks("of 0 7", 1);
        held("ROOMS are round: MOVED by 16 and by 17", 0, 8, 3, 0).with("loan 0")
            .with("days 15").asks("of 0 7", 2).with("days 1").asks("of 0 7", 3).with("days 1").asks("of 0 7", 4);
        sentence("8 farther, round: the rooms opposite")
            .with("handle 4 7 1").asks("leads 0 15", 1).refuses("leads 0 14", Check.NONE)
            .with("set 0 1 8").asks("leads 0 0", 1).refuses("leads 0 15", Check.NONE)
            .with("set 0 1 15").asks("leads 0 7", 1).refuses("leads 0 8", Check.NONE)
            .with("set 0 1 0").asks("leads 0 8", 1).refuses("leads 0 7", Check.NONE);
    }

    private static void limits() {
        sentence("at first: DAY 0, LOAN 5, no FINES, no WEAR, LENT to nobody, OUT 0")
            .asks("now 0", 0).asks("now 5", 5)
            .with("handle 5 15 15", "member 15")
            .asks("of 0 3", 0).asks("of 0 4", -1).asks("of 0 5", 0).asks("of 0 6", 0).asks("about 0 1", 0);
        sentence("at most 8 HANDLES, 0, 1, ..")
            .does("handle 0 0 0", 0).does("handle 0 0 0", 1).with(5, "handle 0 0 0")
            .does("handle 0 0 0", 7).refuses("handle 0 0 0", Check.FULL).asks("count 0", 8);
        sentence("at most 6 MEMBERS, 0, 1, ..")
            .does("member 0", 0).does("member 0", 1).with(3, "member 0")
            .does("member 0", 5).refuses("member 0", Check.FULL).asks("count 2", 6);
        sentence("FROM and TO may be one")
            .does("handle 2 9 9", 0).asks("of 0 1", 9).asks("of 0 2", 9).asks("leads 0 9", 9);
        sentence("LOAN 0 to 30").range("loan #", 0, 5, 30, 5);
        sentence("WEAR 0 to 99").with("handle 0 0 0").range("set 0 3 #", 0, 0, 99, 0);
        sentence("THE TAPE has at most 120 bytes")
            .with(29, "feed 0 4").does("feed 0 4", 120).refuses("feed 0 1", Check.FULL);
    }

    private static void late() {
        held("LATE: OUT is more than LOAN", 0, 0, 1, 0)
            .with("days 5").asks("of 0 6", 0).asks("now 3", 0).asks("of 0 7", 1)
            .with("days 1").asks("of 0 6", 1).asks("now 3", 1).asks("of 0 7", 2)
            .with("loan 6").asks("of 0 6", 0).asks("now 3", 0)
            .with("loan 5").asks("of 0 6", 1)
            .with("back 0").asks("of 0 6", 0).asks("now 3", 0).asks("of 0 7", 1);
        held("LATE with LOAN 0", 0, 0, 1, 0).with("loan 0").asks("of 0 6", 0).with("days 1").asks("of 0 6", 1);
        held("LATE with LOAN 30", 0, 0, 1, 0).with("loan 30")
            .with("days 30").asks("of 0 6", 0).with("days 1").asks("of 0 6", 1);
        sentence("LATE: only if it is LENT").with("handle 0 0 1", "loan 0", "days 60").asks("of 0 6", 0);
    }

    private static void moved() {
        int[] onTime = {3, 3, 3, 3, 3, 3};
        int[] aDayOver = {4, 4, 5, 4, 3, 5};
        int[] eightOver = {11, 11, 3, 11, 3, 3};
        for (int kind = 0; kind <= 5; kind++) {
            held("MOVED of kind " + kind, kind, 0, 3, 0)
                .with("days 5").asks("of 0 7", onTime[kind])
                .with("days 1").asks("of 0 7", aDayOver[kind])
                .with("days 7").asks("of 0 7", eightOver[kind]);
        }
    }

    /** From FROM (10), on day 0: the last wear with which it opens, and the first with which it doesn't. */
    private static void opensByWear() {
        int[] worn = {99, 50, 99, 99, 50, 99};
        for (int kind = 0; kind <= 5; kind++) {
            Edges edges = sentence("OPENS: the WEAR of kind " + kind).with("handle " + kind + " 10 3", "member 10", "lend 0 0");
            edges.with("set 0 3 " + (worn[kind] - 1)).asks("leads 0 10", 3).asks("about 0 3", 1).tries("use 0 0", 3);
            edges.with("set 0 3 " + worn[kind]).refuses("leads 0 10", Check.NONE).asks("about 0 3", 0)
                .refuses("use 0 0", Check.STATE);
        }
        sentence("KNOB: from the room opposite, if WEAR is below 10").with("handle 4 10 3")
            .with("set 0 3 9").asks("leads 0 2", 3)
            .with("set 0 3 10").refuses("leads 0 2", Check.NONE).asks("leads 0 3", 10);
        sentence("KNOB: where END is the room opposite, WEAR below 50 will do").with("handle 4 10 2")
            .with("set 0 3 49").asks("leads 0 2", 10)
            .with("set 0 3 50").refuses("leads 0 2", Check.NONE);
        held("LATCH: at END, if it is LATE and WEAR is below 99", 5, 10, 3, 0).with("loan 0", "set 0 3 98")
            .refuses("leads 0 3", Check.NONE)
            .with("days 1").asks("leads 0 5", 10).refuses("leads 0 3", Check.NONE)
            .with("set 0 3 99").refuses("leads 0 5", Check.NONE);
    }

    /** FROM 10, TO 3, without wear: the rooms in which one is let through, on an even and on an odd day. */
    private static void opensByRoom() {
        int[][] even = {{10, 3}, {10, 3}, {10}, {10, 3}, {10, 3, 2}, {10}};
        int[][] odd = {{10, 3}, {10, 3}, {10}, {10}, {10, 3, 2}, {10}};
        for (int kind = 0; kind <= 5; kind++) {
            Edges edges = sentence("OPENS: the ROOMS of kind " + kind).with("handle " + kind + " 10 3");
            opens(edges, 3, even[kind]);
            opens(edges.with("days 1"), 3, odd[kind]);
        }
        int[] end = {5, 5, 7, 5, 3, 7};
        int[][] late = {{10, 5}, {10, 5}, {10}, {10, 5}, {10, 3, 2}, {10, 7}};
        for (int kind = 0; kind <= 5; kind++) {
            Edges edges = held("OPENS two days over: the ROOMS of kind " + kind, kind, 10, 3, 0).with("loan 0", "days 2");
            opens(edges, end[kind], late[kind]);
        }
        held("ROPE, LATE, on a day that is odd", 3, 10, 3, 0).with("loan 0", "days 3")
            .refuses("leads 0 6", Check.NONE).asks("leads 0 10", 6);
        held("ROPE on a day that is odd, where END is FROM", 3, 10, 9, 0).with("loan 0", "days 1").asks("leads 0 10", 10);
    }

    private static void opens(Edges edges, int end, int[] rooms) {
        for (int r = 0; r < 16; r++) {
            boolean isOpen = false;
            for (int open : rooms) {
                isOpen |= open == r;
            }
            if (isOpen) {
                edges.asks("leads 0 " + r, r == end ? 10 : end);
            } else {
                edges.refuses("leads 0 " + r, Check.NONE);
            }
        }
    }

    private static void leads() {
        sentence("Where it leads: to END, if r isn't END, else to FROM").with("handle 4 10 3")
            .asks("leads 0 10", 3).asks("leads 0 2", 3).asks("leads 0 3", 10);
        held("END comes to be FROM: it leads to where it is", 0, 10, 3, 10).with("loan 0", "days 7")
            .asks("leads 0 10", 10).refuses("leads 0 3", Check.NONE).does("use 0 0", 10);
        sentence("END is the room opposite FROM: it leads to FROM").with("handle 4 10 2").asks("leads 0 2", 10);
    }

    private static void wears() {
        int[][] wears = {{1, 1, 1, 1}, {1, 1, 1, 1}, {2, 2, 2, 2}, {3, 3, 3, 3}, {0, 1, 1, 0}, {3, 3, 3, 3}};
        for (int kind = 0; kind <= 5; kind++) {
            Edges edges = sentence("WEARS of kind " + kind).with("handle " + kind + " 4 4", "member 4", "lend 0 0");
            for (int day = 0; day < 4; day++) {
                edges.asks("now 0", day).asks("of 0 8", wears[kind][day]);
                Edges used = sentence("WEAR by a use of kind " + kind + " on day " + day)
                    .with("handle " + kind + " 4 4", "member 4", "lend 0 0");
                used.with(day, "days 1").does("use 0 0", 4).asks("of 0 3", wears[kind][day]);
                edges.with("days 1");
            }
        }
    }

    private static void pairs() {
        sentence("PAIRS: the same two ROOMS, in either order").with("handle 0 1 2", "handle 5 1 2", "handle 4 2 1")
            .asks("pair 0 1", 1).asks("pair 0 2", 1).asks("pair 1 2", 1).asks("pair 2 0", 1).asks("count 3", 3);
        sentence("PAIRS: one ROOM alone isn't enough").with("handle 0 1 2", "handle 0 1 1", "handle 0 2 2", "handle 0 1 3", "handle 0 3 2")
            .asks("pair 0 1", 0).asks("pair 1 0", 0).asks("pair 0 2", 0).asks("pair 2 0", 0).asks("pair 0 3", 0)
            .asks("pair 0 4", 0).asks("count 3", 0);
        sentence("PAIRS: FROM and TO may be one").with("handle 0 4 4", "handle 1 4 4").asks("pair 0 1", 1);
        held("PAIRS: TO as told, not END", 0, 1, 2, 0).with("handle 0 2 1", "handle 0 1 3", "loan 0", "days 1")
            .asks("of 0 7", 3).asks("pair 0 1", 1).asks("pair 0 2", 0);
    }

    private static void lending() {
        sentence("LENDING: to a member who holds at most 2")
            .with("member 0", "handle 0 0 1", "handle 0 1 2", "handle 0 2 3", "handle 0 3 4")
            .does("lend 0 0", 1).does("lend 1 0", 2).does("lend 2 0", 3).refuses("lend 3 0", Check.FULL)
            .does("back 1", 0).does("lend 3 0", 3).refuses("lend 1 0", Check.FULL);
        sentence("LENDING: none that is a PAIR with it, of any that it holds")
            .with("member 0", "member 0", "handle 0 0 1", "handle 0 1 2", "handle 0 2 1", "handle 0 1 0")
            .with("lend 0 0", "lend 1 0")
            .refuses("lend 2 0", Check.KIND).refuses("lend 3 0", Check.KIND)
            .tries("lend 2 1", 1).with("back 1").tries("lend 2 0", 2).refuses("lend 3 0", Check.KIND);
        held("LENDING: OUT is 0 at first", 0, 0, 1, 0).with("days 9", "back 0", "days 9").does("lend 0 0", 1).asks("of 0 5", 0)
            .with("days 1").asks("of 0 5", 1);
    }

    private static void use() {
        // What a use wears, and the last WEAR from which it isn't cut.
        int[][] rows = {{0, 98, 99}, {2, 97, 99}, {2, 98, 99}, {2, 96, 98}, {3, 96, 99}, {3, 97, 99}, {3, 98, 99}, {3, 95, 98},
            {5, 96, 99}, {5, 97, 99}, {5, 98, 99}, {5, 95, 98}, {1, 49, 50}};
        for (int[] row : rows) {
            sentence("USE: WEAR is WEARS more (99 at most)")
                .with("handle " + row[0] + " 4 9", "member 4", "lend 0 0", "set 0 3 " + row[1])
                .does("use 0 0", 9).asks("of 0 3", row[2]).asks("about 0 0", 9);
        }
        held("USE: a HANDLE that it holds", 0, 4, 9, 4).with("member 4")
            .refuses("use 1 0", Check.STATE).tries("use 0 0", 9)
            .with("back 0").refuses("use 0 0", Check.STATE);
        held("USE: that OPENS where it is", 0, 4, 9, 5).refuses("use 0 0", Check.STATE)
            .with("place 0 0 4").does("use 0 0", 9).does("use 0 0", 4);
    }

    private static void aDayGoes() {
        sentence("A DAY goes: OUT of each HANDLE that is LENT is 1 more, of the others not")
            .with("member 0", "handle 0 0 1", "handle 0 1 2", "lend 1 0").does("days 1", 0)
            .asks("of 0 5", 0).asks("of 1 5", 1).asks("now 0", 1);
        sentence("A DAY goes: FINES for each LATE one that it holds then")
            .with("member 0", "member 0", "member 0", "handle 0 0 1", "handle 0 1 2", "handle 0 2 3", "handle 0 3 4")
            .with("lend 0 0", "lend 1 0", "lend 2 1", "days 5")
            .asks("now 1", 0).does("days 1", 3)
            .asks("about 0 1", 2).asks("about 1 1", 1).asks("about 2 1", 0);
        held("A DAY goes: OUT is 1 more first", 0, 0, 1, 0).with("loan 0").does("days 1", 1);
    }

    private static void fines() {
        held("FINES are held to 9999", 0, 0, 1, 0).with("handle 0 1 2", "handle 0 2 3", "lend 1 0", "lend 2 0", "loan 0")
            .with("place 0 1 9995").tries("days 1", 9998).asks("on 0 1 0", 9998).asks("on 0 2 0", 9999)
            .with("place 0 1 9996").tries("days 1", 9999).asks("on 0 1 0", 9999)
            .with("place 0 1 9997").tries("days 1", 9999).asks("on 0 1 0", 9999)
            .with("place 0 1 9999").tries("days 1", 9999).tries("days 60", 9999).asks("on 0 60 0", 9999);
        sentence("FINES of each are held, not those of all")
            .with("member 0", "member 0", "handle 0 0 1", "handle 0 1 2", "lend 0 0", "lend 1 1", "loan 0")
            .with("place 0 1 9999", "place 1 1 9998").does("days 1", 19998).does("days 1", 19998).asks("now 1", 19998);
    }

    private static void lastDay() {
        sentence("DAY: 9999 at most").with(165, "days 60").with("days 39")
            .asks("now 0", 9939).tries("days 60", 0)
            .with("days 1").refuses("days 60", Check.STATE).does("days 59", 0).asks("now 0", 9999)
            .refuses("days 1", Check.STATE).refuses("days 60", Check.STATE)
            .refuses("days 0", Check.BEYOND).refuses("days 61", Check.BEYOND);
        held("DAY 9998 is even, 9999 is odd", 3, 0, 1, 1).with("loan 30").with(166, "days 60").with("back 0", "days 38")
            .with("lend 0 0").asks("reach 0", 3).with("days 1").asks("reach 0", 2).asks("of 0 8", 3)
            .with("turn 0 4").asks("of 0 8", 0);
    }

    private static void on() {
        held("ON: nothing changes", 3, 0, 1, 0).with("loan 0")
            .asks("on 0 0 0", 0).asks("on 0 60 0", 60).asks("on 0 0 1", 3).asks("on 0 60 1", 1 | 1 << 13)
            .asks("late 0", 1).asks("least 0 30", 30).asks("now 0", 0).asks("of 0 5", 0);
    }

    private static void reach() {
        sentence("REACH: its own, too").with("member 15").asks("reach 0", 1 << 15).with("place 0 0 0").asks("reach 0", 1);
        held("REACH: again and again, without WEAR", 0, 0, 1, 0).with("handle 0 1 2", "handle 0 2 3", "lend 1 0", "lend 2 0")
            .with("set 0 3 98", "set 1 3 98", "set 2 3 98").asks("reach 0", 15)
            .with("set 1 3 99").asks("reach 0", 3);
        sentence("REACH: by HANDLES that it holds").with("member 0", "member 0", "handle 0 0 1").asks("reach 0", 1)
            .with("lend 0 1").asks("reach 0", 1).asks("reach 1", 3);
    }

    private static void sheets() {
        for (int s = 0; s < 4; s++) {
            sentence("SHEETS 0 to 3 are MISSING at first").refuses("write " + s + " 0 1", Check.MISSING)
                .refuses("lays " + s, Check.MISSING).does("sheet " + s + " 64 40", 40)
                .asks("write " + s + " 39 0", 0).refuses("write " + s + " 40 0", Check.BEYOND);
        }
        sentence("no SHEET 4").refuses("sheet 4 8 1", Check.BEYOND).refuses("sheet -1 8 1", Check.BEYOND);
    }
}
