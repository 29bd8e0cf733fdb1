/** The edges that promises 1 to 12 name: a new object, handles, members. */
public final class EdgesOfHandlesTest {
    private static final Check CHECK = new Check();

    public static void main(String[] args) {
        newObject();
        handle();
        of();
        set();
        turn();
        as();
        leads();
        pair();
        member();
        about();
        place();
        loan();
        CHECK.end();
    }

    private static Edges sentence(String words) {
        return new Edges(CHECK, words);
    }

    private static Edges furnished(String words) {
        return Edges.furnished(CHECK, words);
    }

    private static void newObject() {
        Edges fresh = sentence("1: no HANDLES, no MEMBERS").asks("count 0", 0).asks("count 2", 0).asks("count 3", 0);
        for (int what = 0; what <= 4; what++) {
            fresh.asks("now " + what, 0);
        }
        fresh.asks("now 5", 5).refuses("of 0 0", Check.BEYOND).refuses("about 0 0", Check.BEYOND)
            .refuses("reach 0", Check.BEYOND).refuses("late 0", Check.BEYOND);
        sentence("1: THE TAPE is empty").asks("count 1", 0).asks("wipe", 0).asks("house", -1);
        sentence("1: no image is kept").refuses("undo", Check.NONE).asks("tear", 0);
        Edges status = sentence("1: no act has answered a finding");
        for (int which = -1; which <= 6; which++) {
            status.asks("status " + which, 0);
        }
    }

    private static void handle() {
        furnished("2: BEYOND: kind").range("handle # 0 0", 0, 6, 5, 6);
        furnished("2: BEYOND: from").range("handle 0 # 0", 0, 6, 15, 6);
        furnished("2: BEYOND: to").range("handle 0 0 #", 0, 6, 15, 6);
        furnished("2: FULL").does("handle 5 15 0", 6).does("handle 0 0 15", 7).refuses("handle 0 0 0", Check.FULL)
            .asks("of 6 0", 5).asks("of 6 1", 15).asks("of 6 2", 0).asks("of 7 0", 0).asks("of 7 1", 0).asks("of 7 2", 15);
        furnished("2: BEYOND ahead of FULL").with(2, "handle 0 0 0")
            .refuses("handle 6 0 0", Check.BEYOND).refuses("handle -1 0 0", Check.BEYOND)
            .refuses("handle 0 16 0", Check.BEYOND).refuses("handle 0 -1 0", Check.BEYOND)
            .refuses("handle 0 0 16", Check.BEYOND).refuses("handle 0 0 -1", Check.BEYOND);
        furnished("2: a refused one takes no number").refuses("handle 6 0 0", Check.BEYOND).does("handle 0 0 0", 6);
    }

    private static void of() {
        furnished("3: BEYOND: no such HANDLE").range("of # 0", 0, 0, 5, 5);
        furnished("3: BEYOND: what").range("of 0 #", 0, 0, 8, 1);
        furnished("3: BEYOND: neither").refuses("of 6 9", Check.BEYOND).refuses("of -1 -1", Check.BEYOND);
        // Handle 0 was lent to member 0 on day 0 and used once; handle 4 was never lent.
        int[] lent = {0, 0, 1, 1, 0, 6, 1, 3, 1};
        int[] never = {4, 8, 5, 0, -1, 0, 0, 5, 0};
        Edges edges = furnished("3: each what of one that is LENT and LATE, and of one that isn't");
        for (int what = 0; what <= 8; what++) {
            edges.asks("of 0 " + what, lent[what]).asks("of 4 " + what, never[what]);
        }
    }

    private static void set() {
        furnished("4: BEYOND: no such HANDLE").range("set # 1 7", 0, 0, 5, 5);
        furnished("4: BEYOND: what").range("set 0 # 7", 1, 0, 3, 1);
        furnished("4: BEYOND: FROM").range("set 0 1 #", 0, 0, 15, 0);
        furnished("4: BEYOND: TO").range("set 0 2 #", 0, 1, 15, 1);
        furnished("4: BEYOND: WEAR").range("set 0 3 #", 0, 1, 99, 1);
        furnished("4: FROM becomes v").does("set 0 1 15", 0).asks("of 0 1", 15).does("set 0 1 0", 15).asks("of 0 1", 0);
        furnished("4: TO becomes v").does("set 0 2 15", 1).asks("of 0 2", 15).does("set 0 2 0", 15).asks("of 0 2", 0);
        furnished("4: WEAR becomes v").does("set 0 3 99", 1).asks("of 0 3", 99).does("set 0 3 0", 99).asks("of 0 3", 0);
        furnished("4: WEAR may be more than a ROOM").does("set 0 3 16", 1);
    }

    private static void turn() {
        furnished("5: BEYOND: no such HANDLE").range("turn # 3", 0, 0, 5, 5);
        furnished("5: BEYOND: kind").range("turn 1 #", 0, 1, 5, 1);
        furnished("5: what it was").does("turn 1 5", 1).asks("of 1 0", 5).does("turn 1 0", 5).asks("of 1 0", 0);
        furnished("5: the same KIND is no finding").asks("turn 1 1", 1);
    }

    private static void as() {
        furnished("6: BEYOND: no such one").range("as # 0", 0, 1, 5, 0);
        furnished("6: BEYOND: kind").range("as 0 #", 0, 1, 5, Check.KIND);
        furnished("6: BEYOND: kind, of the last KIND").range("as 5 #", 0, 0, 5, 0);
        // Rows: what it is; columns: as one of which kind.
        String[] isOf = {"100000", "110000", "101000", "100100", "110010", "101001"};
        for (int kind = 0; kind <= 5; kind++) {
            Edges edges = sentence("6: KIND: a HANDLE of kind " + kind).with("handle " + kind + " 0 0", "set 0 3 42");
            for (int as = 0; as <= 5; as++) {
                if (isOf[kind].charAt(as) == '1') {
                    edges.asks("as 0 " + as, 42);
                } else {
                    edges.refuses("as 0 " + as, Check.KIND);
                }
            }
        }
    }

    private static void leads() {
        // END of 0 is 3 (moved by 2), of 5 (not lent) 4.
        furnished("7: BEYOND: no such HANDLE, ROOM 5").range("leads # 5", 0, Check.NONE, 5, 4);
        furnished("7: BEYOND: room").range("leads 0 #", 0, 3, 15, Check.NONE);
        sentence("7: BEYOND: room, where all are open").with("handle 0 0 15").range("leads 0 #", 0, 15, 15, 0);
        furnished("7: BEYOND: neither").refuses("leads 6 16", Check.BEYOND);
        furnished("7: NONE").asks("leads 0 3", 0).refuses("leads 0 1", Check.NONE).refuses("leads 0 2", Check.NONE)
            .refuses("leads 0 4", Check.NONE);
    }

    private static void pair() {
        furnished("8: BEYOND: no such HANDLE").range("pair # 1", 0, 0, 5, 0);
        furnished("8: BEYOND: no such other").range("pair 1 #", 0, 0, 5, 0);
        furnished("8: BEYOND: also one and the same").refuses("pair 0 0", Check.BEYOND).refuses("pair 5 5", Check.BEYOND)
            .refuses("pair 6 6", Check.BEYOND).asks("pair 0 5", 0).asks("pair 5 0", 0);
        furnished("8: 1, 0").with("handle 0 1 0", "handle 0 0 2").asks("pair 0 6", 1).asks("pair 6 0", 1)
            .asks("pair 0 7", 0).asks("pair 7 0", 0).asks("pair 6 7", 0);
    }

    private static void member() {
        furnished("9: BEYOND").range("member #", 0, 2, 15, 2);
        furnished("9: FULL").with(3, "member 0").does("member 15", 5).refuses("member 0", Check.FULL)
            .asks("about 5 0", 15).asks("about 5 1", 0).asks("about 5 2", 0).asks("about 5 3", 0);
        furnished("9: BEYOND ahead of FULL").with(4, "member 0").refuses("member 16", Check.BEYOND).refuses("member -1", Check.BEYOND);
        furnished("9: a refused one takes no number").refuses("member 16", Check.BEYOND).does("member 0", 2);
    }

    private static void about() {
        furnished("10: BEYOND: no such MEMBER").range("about # 0", 0, 2, 1, 3);
        furnished("10: BEYOND: what").range("about 1 #", 0, 3, 3, 8);
        furnished("10: BEYOND: neither").refuses("about 2 4", Check.BEYOND);
        furnished("10: each what").asks("about 0 1", 2).asks("about 1 1", 20).asks("about 0 2", 3).asks("about 1 2", 8);
        furnished("10: those that OPEN where it is").asks("about 0 3", 0)
            .with("place 0 0 0").asks("about 0 3", 1).with("place 0 0 1").asks("about 0 3", 2)
            .with("place 0 0 3").asks("about 0 3", 1).with("place 0 0 4").asks("about 0 3", 2)
            .with("set 0 1 4").asks("about 0 3", 3);
        sentence("10: a MEMBER who holds none").with("member 0", "handle 0 0 1").asks("about 0 2", 0).asks("about 0 3", 0);
    }

    private static void place() {
        furnished("11: BEYOND: no such MEMBER").range("place # 0 7", 0, 2, 1, 3);
        furnished("11: BEYOND: what").range("place 1 # 7", 0, 3, 1, 20);
        furnished("11: BEYOND: AT").range("place 1 0 #", 0, 3, 15, 3);
        furnished("11: BEYOND: FINES 0 to 9999").range("place 1 1 #", 0, 20, 9999, 20);
        furnished("11: AT becomes v").does("place 1 0 15", 3).asks("about 1 0", 15).does("place 1 0 0", 15).asks("about 1 0", 0);
        furnished("11: FINES becomes v").does("place 1 1 9999", 20).asks("about 1 1", 9999)
            .does("place 1 1 0", 9999).asks("about 1 1", 0);
        furnished("11: FINES may be more than a ROOM").does("place 1 1 16", 20);
    }

    private static void loan() {
        furnished("12: BEYOND").range("loan #", 0, 4, 30, 4);
        furnished("12: LOAN becomes v").does("loan 30", 4).asks("now 5", 30).does("loan 0", 30).asks("now 5", 0);
        furnished("12: it counts at once").with("loan 6").asks("now 3", 0).with("loan 5").asks("now 3", 11);
    }
}
