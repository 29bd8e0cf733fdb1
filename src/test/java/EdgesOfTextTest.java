/** The edges that promises 29 to 31 and THE TEXT name. */
public final class EdgesOfTextTest {
    private static final Check CHECK = new Check();

    public static void main(String[] args) {
        feed();
        whatIsFed();
        wipe();
        items();
        emptyThen();
        endsTooEarly();
        blanks();
        bytesThatBeginNoToken();
        wordsAndSigns();
        numbers();
        limits();
        nothingChanges();
        CHECK.end();
    }

    private static Edges sentence(String words) {
        return new Edges(CHECK, words);
    }

    private static Edges furnished(String words) {
        return Edges.furnished(CHECK, words);
    }

    private static void feed() {
        furnished("29: BEYOND: n 1 to 4").range("feed 0 #", 1, 7, 4, 10);
        furnished("29: FULL").with(28, "feed 7 4").asks("count 1", 118)
            .refuses("feed 7 4", Check.FULL).refuses("feed 7 3", Check.FULL).tries("feed 7 2", 120)
            .with("feed 7 1").refuses("feed 7 2", Check.FULL).does("feed 7 1", 120)
            .refuses("feed 7 1", Check.FULL).refuses("feed 7 4", Check.FULL).asks("count 1", 120);
        sentence("29: FULL, by fours").with(29, "feed 7 4").does("feed 7 4", 120).refuses("feed 7 1", Check.FULL);
        sentence("29: BEYOND ahead of FULL").with(30, "feed 7 4").refuses("feed 7 0", Check.BEYOND).refuses("feed 7 5", Check.BEYOND)
            .refuses("feed 7 -1", Check.BEYOND);
        sentence("29: a full TAPE that is wiped is empty").with(30, "feed 7 4").does("wipe", 120).does("feed 7 4", 4);
    }

    /** "loan 7" in other ways: the highest of the n lowest bytes comes first, what is above them doesn't come. */
    private static void whatIsFed() {
        sentence("29: the highest first").with("feed 1819238766 4", "feed 8247 2").does("house", 1).asks("now 5", 7);
        sentence("29: the n lowest").with("feed " + 0x6c + " 1", "feed " + 0xff6f616e + " 3", "feed " + 0x7f7f2037 + " 2")
            .does("house", 1).asks("now 5", 7);
        sentence("29: one by one").with("feed " + 0xffffff6c + " 1", "feed " + 0x6f + " 1", "feed " + 0x1236f + " 1").does("house", -1);
        sentence("29: a 0 ahead is a byte, too").with("feed " + 0x6c6f616e + " 4", "feed " + 0x37 + " 2").does("house", -1 - 4);
        sentence("29: a byte above 127 is one byte").with("feed 1819238766 4", "feed " + 0x20ff37 + " 3").does("house", -1 - 5);
        sentence("29: numbers below 0 are bytes, too").with("feed -1 1").asks("count 1", 1).with("feed -1 4").asks("count 1", 5)
            .with("feed " + Integer.MIN_VALUE + " 4").does("house", -1);
    }

    private static void wipe() {
        furnished("30: how many it had").does("wipe", 6).asks("count 1", 0).does("wipe", 0).does("feed 0 1", 1).does("wipe", 1);
        sentence("30: an empty one").asks("wipe", 0);
    }

    private static void items() {
        sentence("31: one ITEM, several").withText("loan 7").tries("house", 1).withText(";loan 8").tries("house", 2)
            .withText(" ; member").does("house", 3).asks("now 5", 8).asks("count 2", 1).asks("about 0 0", 0);
        String[] names = {"handle", "brass", "bone", "rope", "knob", "latch"};
        for (int kind = 0; kind < names.length; kind++) {
            sentence("31: " + names[kind]).withText(names[kind] + " from 0 to 15").does("house", 1)
                .asks("of 0 0", kind).asks("of 0 1", 0).asks("of 0 2", 15).asks("of 0 3", 0).asks("of 0 4", -1).asks("of 0 5", 0);
            sentence("31: " + names[kind] + " with wear").withText(names[kind] + " from 15 to 0 wear 99").does("house", 1)
                .asks("of 0 0", kind).asks("of 0 1", 15).asks("of 0 2", 0).asks("of 0 3", 99);
        }
        furnished("31: the ITEMS come to what there is").with("wipe").withText("rope from 4 to 5 wear 1;member at 9;loan 0")
            .does("house", 3).asks("of 6 0", 3).asks("of 6 1", 4).asks("of 6 2", 5).asks("of 6 3", 1)
            .asks("about 2 0", 9).asks("about 2 1", 0).asks("now 5", 0).asks("now 0", 6).asks("now 1", 22).asks("count 0", 7);
        String ends = "loan1;".repeat(19);
        sentence("31: as many ITEMS as 120 bytes hold").withText(ends).withText("loan2").asks("count 1", 119).tries("house", 20)
            .withText("9").asks("count 1", 120).does("house", 20).asks("now 5", 29);
        sentence("31: a FAULT at the end of 120 bytes").withText(ends).withText("loan3").tries("house", 20)
            .withText(";").tries("house", -1 - 120);
        sentence("31: a FAULT in the last of 120 bytes").withText(ends).withText("loan3!").tries("house", -1 - 119);
    }

    private static void emptyThen() {
        furnished("31: and empty then").does("house", 1).asks("count 1", 0).asks("house", -1);
        furnished("31: with a FAULT THE TAPE is empty, too").withText("x").does("house", -1 - 6).asks("count 1", 0).asks("house", -1);
        furnished("31: no finding").withText("x").with("house").asks("status -1", 0);
    }

    /** Nothing but the tape changes with a fault. */
    private static void fault(String text, int place) {
        sentence("31: FAULT in '" + text + "'").withText(text).tries("house", -1 - place);
        Edges.furnished(CHECK, "31: nothing changes by '" + text + "'").with("wipe").asksText(text, -1 - place);
    }

    private static void fine(String text, int items) {
        sentence("31: no FAULT in '" + text + "'").withText(text).tries("house", items);
    }

    private static void endsTooEarly() {
        fault("", 0);
        String handle = "brass from 3 to 4 wear 5";
        fault(handle.substring(0, 5), 5);
        fault(handle.substring(0, 6), 6);
        fault(handle.substring(0, 10), 10);
        fault(handle.substring(0, 11), 11);
        fault(handle.substring(0, 12), 12);
        fault(handle.substring(0, 13), 13);
        fault(handle.substring(0, 15), 15);
        fault(handle.substring(0, 16), 16);
        fine(handle.substring(0, 17), 1);
        fine(handle.substring(0, 18), 1);
        fault(handle.substring(0, 22), 22);
        fault(handle.substring(0, 23), 23);
        fine(handle, 1);
        fine("member", 1);
        fine("member ", 1);
        fault("member at", 9);
        fault("member at ", 10);
        fine("member at 3", 1);
        fault("loan", 4);
        fault("loan ", 5);
        fine("loan 3", 1);
        fault("loan 3;", 7);
        fault("loan 3; ", 8);
        fine("loan 3; member", 2);
    }

    private static void blanks() {
        fine(" loan 3 ", 1);
        fine("     loan     3     ;     member     ", 2);
        fine("loan3;member;member at3", 3);
        fine("brass from3to4wear5", 1);
        fault(" ", 1);
        fault("    ", 4);
        fault("  ;", 2);
        fault("lo an 3", 0);
        fault("loan 3 0", 7);
        fault("loan 1 ;; loan 2", 8);
    }

    private static void bytesThatBeginNoToken() {
        int[] outside = {0, 9, 10, 13, 31, 33, '/', ':', '<', '@', 'A', 'Z', '[', '`', '{', 127, 128, 160, 255, '-', '.', ',', '_'};
        for (int b : outside) {
            fault("" + (char) b, 0);
            fault("loan" + (char) b + "3", 4);
            fault("loan 3" + (char) b, 6);
            fault("member" + (char) b + ";loan 3", 6);
        }
        sentence("31: a FAULT behind another doesn't count").withText("loan 31 !").tries("house", -1 - 5);
        sentence("31: a FAULT ahead of another counts").withText("loan ! 31").tries("house", -1 - 5);
    }

    private static void wordsAndSigns() {
        String[] others = {"a", "z", "handles", "handl", "brasses", "bon", "ropes", "kno", "latches", "members", "membe", "loans",
            "loa", "from", "to", "wear", "at", "Brass", "0", "7", ";"};
        for (String other : others) {
            fault(other, 0);
            fault("loan 3;" + other, 7);
        }
        String[] nearly = {"xandle", "xrass", "xone", "xope", "xnob", "xatch", "handlx", "brasx", "bonx", "ropx", "knox", "latcx"};
        for (String other : nearly) {
            fault(other + " from 3 to 4", 0);
        }
        fault("xember", 0);
        fault("membex", 0);
        fault("xoan 3", 0);
        fault("loax 3", 0);
        fault("brass xrom 3 to 4", 6);
        fault("brass from 3 xo 4", 13);
        fault("brass from 3 to 4 xear 5", 18);
        fault("member xt 3", 7);
        fault("memberz", 0);
        fault("amember", 0);
        fault("loanz 3", 0);
        fault("brass to 3 from 4", 6);
        fault("brass 3 to 4", 6);
        fault("brass ; from 3 to 4", 6);
        fault("brass fro 3 to 4", 6);
        fault("brass froms 3 to 4", 6);
        fault("brass from to 4", 11);
        fault("brass from ; to 4", 11);
        fault("brass from 3 4", 13);
        fault("brass from 3 wear 4", 13);
        fault("brass from 3;to 4", 12);
        fault("brass from 3 t 4", 13);
        fault("brass from 3 to wear 4", 16);
        fault("brass from 3 to;", 15);
        fault("brass from 3 to 4 5", 18);
        fault("brass from 3 to 4 at 5", 18);
        fault("brass from 3 to 4 wea 5", 18);
        fault("brass from 3 to 4 wear wear", 23);
        fault("brass from 3 to 4 wear;", 22);
        fault("brass from 3 to 4 wear 5 wear 6", 25);
        fault("brass from 3 to 4 brass", 18);
        fault("member 3", 7);
        fault("member a 3", 7);
        fault("member at at", 10);
        fault("member at;", 9);
        fault("member at 3 4", 12);
        fault("member at 3 at 4", 12);
        fault("member wear 3", 7);
        fault("member loan", 7);
        fault("loan loan", 5);
        fault("loan;", 4);
        fault("loan at 3", 5);
        fault("loan 3 loan 4", 7);
    }

    private static void numbers() {
        fine("brass from 0 to 0 wear 0", 1);
        fine("brass from 15 to 15 wear 99", 1);
        fault("brass from 16 to 0", 11);
        fault("brass from 0 to 16", 16);
        fault("brass from 0 to 0 wear 100", 23);
        fine("member at 0", 1);
        fine("member at 15", 1);
        fault("member at 16", 10);
        fine("loan 0", 1);
        fine("loan 30", 1);
        fault("loan 31", 5);
        fault("loan 999", 5);
        fault("loan 1000", 5);
        fault("loan 1005", 5);
        fault("loan 4294967296", 5);
        fault("loan 4294967301", 5);
        fault("loan 18446744073709551616", 5);
        fault("brass from 65536 to 0", 11);
        fault("brass from 256 to 0", 11);
        fault("brass from 0 to 0 wear 999", 23);
        fault("member at 999", 10);
        fine("loan 030", 1);
        fine("loan 00000000000000000000030", 1);
        fault("loan 031", 5);
        fault("loan -1", 5);
        fault("loan 3.0", 6);
        fault("loan 3x", 6);
    }

    private static void limits() {
        sentence("31: the name of a KIND for a 9th HANDLE").with(7, "handle 0 0 0")
            .withText("loan 1;bone from 0 to 1").tries("house", 2)
            .withText(";rope from 0 to 1").tries("house", -1 - 24);
        sentence("31: the name for a 9th HANDLE stands ahead of other FAULTS").with(8, "handle 0 0 0")
            .withText("loan 1;knob from 99").tries("house", -1 - 7).tries("wipe", 19);
        sentence("31: a 9th HANDLE alone").with(8, "handle 0 0 0").withText("latch").tries("house", -1);
        sentence("31: 8 HANDLES and no more ITEMS of these").with(8, "handle 0 0 0").withText("member;loan 1").does("house", 2);
        sentence("31: member for a 7th").with(5, "member 0").withText("loan 1;member").tries("house", 2).withText(" ; member at 1")
            .tries("house", -1 - 16);
        sentence("31: member for a 7th stands ahead of other FAULTS").with(6, "member 0").withText("loan 1;member at 99")
            .tries("house", -1 - 7);
        sentence("31: 6 MEMBERS and no more ITEMS of these").with(6, "member 0").withText("bone from 0 to 1;loan 1").does("house", 2);
        sentence("31: 6 MEMBERS of one text").withText("member;member;member;member;member;member").tries("house", 6)
            .withText(";member").tries("house", -1 - 42);
        sentence("31: 8 HANDLES of two texts").withText("bone from 0 to 1;bone from 0 to 1;bone from 0 to 1;bone from 0 to 1").does("house", 4)
            .withText("bone from 0 to 1;bone from 0 to 1;bone from 0 to 1;bone from 0 to 1").tries("house", 4)
            .withText(";bone from 0 to 1").tries("house", -1 - 68);
    }

    private static void nothingChanges() {
        String text = "brass from 1 to 2 wear 3;member at 4;loan 9;";
        furnished("31: with a FAULT at the end no ITEM comes").with("wipe").asksText(text, -1 - text.length())
            .asksText(text + "!", -1 - text.length()).withText(text + "loan 8").does("house", 4).asks("count 0", 7).asks("now 5", 8);
        furnished("31: with a FAULT the image stays").with("wipe").withText(text).with("house").does("undo", 6).asks("now 0", 0);
        sentence("31: an ITEM refused stands in no later text").with("wipe").asksText(text, -1 - text.length()).withText("member")
            .does("house", 1).asks("about 0 0", 0).asks("count 0", 0).asks("now 5", 5);
    }
}
