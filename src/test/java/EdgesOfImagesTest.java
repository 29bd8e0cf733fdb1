/** The edges that promises 38 to 42 name: images, counts, status. */
public final class EdgesOfImagesTest {
    private static final Check CHECK = new Check();

    public static void main(String[] args) {
        image();
        undo();
        whatUndoLeaves();
        tear();
        count();
        status();
        statusOfEach();
        anyArguments();
        CHECK.end();
    }

    private static Edges sentence(String words) {
        return new Edges(CHECK, words);
    }

    private static Edges furnished(String words) {
        return Edges.furnished(CHECK, words);
    }

    private static void image() {
        sentence("38: of an empty house").does("image", 1).with("handle 0 0 1", "member 3", "loan 9", "days 9").does("undo", 0)
            .asks("count 0", 0).asks("count 2", 0).asks("now 0", 0).asks("now 5", 5);
        furnished("38: 1, again and again").does("image", 1).does("image", 1).does("undo", 6).asks("now 0", 6);
        Edges full = sentence("38: of a full house").with(6, "member 15");
        for (int h = 0; h < 8; h++) {
            full.with("handle 5 " + h + " 15", "set " + h + " 3 99", "lend " + h + " " + h % 6);
        }
        full.with("place 5 1 9999", "loan 30", "days 60", "image");
        for (int h = 0; h < 8; h++) {
            full.with("turn " + h + " 0", "set " + h + " 1 9", "set " + h + " 2 9", "set " + h + " 3 0", "back " + h);
        }
        full.with("place 5 1 0", "place 5 0 0", "loan 0", "days 1").does("undo", 8);
        for (int h = 0; h < 8; h++) {
            full.asks("of " + h + " 0", 5).asks("of " + h + " 1", h).asks("of " + h + " 2", 15).asks("of " + h + " 3", 99)
                .asks("of " + h + " 4", h % 6).asks("of " + h + " 5", 60);
        }
        full.asks("about 5 1", 9999).asks("about 5 0", 15).asks("about 4 1", 30).asks("about 0 1", 60).asks("now 0", 60).asks("now 5", 30);
    }

    private static void undo() {
        sentence("39: NONE: nothing is kept").refuses("undo", Check.NONE).with("handle 0 0 1", "image").does("undo", 1);
        furnished("39: it becomes what was kept").does("undo", 6).asks("now 0", 0).asks("now 5", 5).asks("now 1", 0).asks("of 0 5", 0)
            .asks("of 0 3", 0).asks("of 2 3", 7).asks("about 0 0", 0).asks("about 0 2", 3).asks("about 1 1", 0);
        furnished("39: the latest").with("image", "days 1").does("undo", 6).asks("now 0", 6);
        furnished("39: which stays").does("undo", 6).with("handle 0 0 1", "days 7", "set 0 3 50").does("undo", 6).asks("now 0", 0)
            .asks("of 0 3", 0).asks("undo", 6);
        furnished("39: how many HANDLES").with("handle 0 0 0", "handle 0 0 0", "image").does("undo", 8);
        furnished("39: fewer HANDLES and MEMBERS: those numbers are BEYOND again").with("handle 0 0 0", "member 0").does("undo", 6)
            .refuses("of 6 0", Check.BEYOND).refuses("about 2 0", Check.BEYOND);
        sentence("39: a number taken anew is a new one").with("image", "member 4", "handle 3 4 5", "set 0 3 9", "lend 0 0", "days 9")
            .does("undo", 0).does("member 1", 0).does("handle 1 2 3", 0).asks("of 0 3", 0).asks("of 0 4", -1).asks("of 0 5", 0)
            .asks("about 0 1", 0).asks("about 0 2", 0);
        sentence("39: so is one of a text").with("image", "member 4", "handle 3 4 5", "set 0 3 9", "lend 0 0", "days 9", "undo")
            .withText("member;bone from 1 to 2").does("house", 2).asks("of 0 3", 0).asks("of 0 4", -1).asks("of 0 5", 0).asks("about 0 1", 0);
    }

    private static void whatUndoLeaves() {
        furnished("38: THE TAPE not").does("undo", 6).asks("count 1", 6).does("house", 1).asks("now 5", 7);
        furnished("38: an empty TAPE stays empty").with("wipe").does("undo", 6).asks("count 1", 0);
        furnished("38: sheets not").does("undo", 6).asks("write 0 1 9", 9).asks("write 1 0 300", 300).asks("write 2 0 -5", -5)
            .refuses("write 3 0 0", Check.MISSING).refuses("write 0 2 0", Check.BEYOND);
        HandleLoans x = new HandleLoans();
        x.image();
        x.reach(0);
        x.lays(0);
        CHECK.due("42: undo() takes none back", x.undo(), 0);
        CHECK.due("42: all", x.status(-1), 2);
        CHECK.due("42: BEYOND", x.status(0), 1);
        CHECK.due("42: MISSING", x.status(5), 1);
    }

    private static void tear() {
        sentence("40: nothing was").asks("tear", 0).with("image").does("tear", 1).asks("tear", 0).refuses("undo", Check.NONE)
            .does("image", 1).does("undo", 0);
        furnished("40: nothing else changes").does("tear", 1).asks("now 0", 6).asks("count 0", 6).asks("count 1", 6)
            .refuses("undo", Check.NONE).asks("tear", 0);
    }

    private static void count() {
        furnished("41: BEYOND: another what").range("count #", 0, 6, 3, 0);
        furnished("41: each").asks("count 0", 6).asks("count 1", 6).asks("count 2", 2).asks("count 3", 0);
        sentence("41: of none").asks("count 0", 0).asks("count 1", 0).asks("count 2", 0).asks("count 3", 0);
        sentence("41: all that there can be").with(8, "handle 0 3 3").with(6, "member 0").with(30, "feed 0 4")
            .asks("count 0", 8).asks("count 1", 120).asks("count 2", 6).asks("count 3", 28);
        sentence("41: PAIRS come and go").with("handle 0 1 2").asks("count 3", 0).with("handle 0 2 1").asks("count 3", 1)
            .with("handle 0 2 1").asks("count 3", 3).with("set 0 1 3").asks("count 3", 1);
    }

    private static void status() {
        furnished("42: BEYOND: another one").range("status #", -1, 0, 6, 0);
        HandleLoans x = new HandleLoans();
        CHECK.due("42: none", x.status(-1), 0);
        CHECK.due("42: BEYOND", x.status(7), Check.BEYOND);
        CHECK.due("42: counted from then on", x.status(0), 1);
        CHECK.due("42: counted in all, too", x.status(-1), 1);
        CHECK.due("42: BEYOND", x.status(-2), Check.BEYOND);
        CHECK.due("42: counted again", x.status(0), 2);
        CHECK.due("42: all", x.status(-1), 2);
        for (int i = 0; i < 400; i++) {
            x.reach(-1);
        }
        CHECK.due("42: ever", x.status(0), 402);
        CHECK.due("42: all, ever", x.status(-1), 402);
    }

    /** So many of each finding, none like another: BEYOND 7, FULL 6, KIND 5, NONE 4, STATE 3, MISSING 2, SIZE 1. */
    private static void statusOfEach() {
        HandleLoans x = new HandleLoans();
        for (int i = 0; i < 6; i++) {
            x.member(0);
        }
        x.handle(0, 0, 0);
        String[] calls = {"BEYOND", "FULL", "KIND", "NONE", "STATE", "MISSING", "SIZE"};
        for (int which = 0; which < 7; which++) {
            for (int i = 7 - which; i > 0; i--) {
                CHECK.due("42: " + calls[which], tell(x, which), Check.BEYOND - which);
            }
        }
        for (int which = 0; which < 7; which++) {
            CHECK.due("42: how many " + calls[which], x.status(which), 7 - which);
        }
        CHECK.due("42: all", x.status(-1), 28);
    }

    private static int tell(HandleLoans x, int which) {
        switch (which) {
            case 0: return x.member(16);
            case 1: return x.member(0);
            case 2: return x.as(0, 1);
            case 3: return x.late(0);
            case 4: return x.back(0);
            case 5: return x.read(3, 0);
            default: return x.sheet(3, 16, -1);
        }
    }

    /** No call may ever throw: every call, with the farthest arguments in every place, in a full house and in an empty one. */
    private static void anyArguments() {
        int[] far = {Integer.MIN_VALUE, -1, 0, 15, 16, 41, Integer.MAX_VALUE};
        for (String call : new String[] {"handle 3", "of 2", "set 3", "turn 2", "as 2", "leads 2", "pair 2", "member 1", "about 2", "place 3",
            "loan 1", "lend 2", "back 1", "use 2", "days 1", "now 1", "on 3", "late 1", "reach 1", "way 2", "next 2", "wanted 2", "two 2",
            "meet 2", "kind 2", "least 2", "uses 2", "feed 2", "wipe 0", "house 0", "sheet 3", "write 3", "copy 5", "lays 1", "book 2",
            "read 2", "image 0", "undo 0", "tear 0", "count 1", "status 1"}) {
            String[] parts = call.split(" ");
            Edges.answersAll(CHECK, parts[0], Integer.parseInt(parts[1]), far);
        }
    }
}
