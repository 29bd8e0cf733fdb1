/** Promises 29 to 31: the text. */
public final class TextTest {
    private static final Check CHECK = new Check();

    public static void main(String[] args) {
        feed();
        goodTexts();
        faults();
        faultsOfNumbers();
        faultsOfLimits();
        nothingChanges();
        CHECK.end();
    }

    private static void feed() {
        HandleLoans x = new HandleLoans();
        CHECK.due("feed 0", x.feed(65, 0), Check.BEYOND);
        CHECK.due("feed 5", x.feed(65, 5), Check.BEYOND);
        CHECK.due("feed -1", x.feed(65, -1), Check.BEYOND);
        CHECK.due("feed 'loan'", x.feed(0x6c6f616e, 4), 4);
        CHECK.due("feed ' 7', two of four", x.feed(0x7f7f2037, 2), 6);
        CHECK.due("count(1)", x.count(1), 6);
        CHECK.due("house", x.house(), 1);
        CHECK.due("loan", x.now(5), 7);
        CHECK.due("the tape is empty", x.count(1), 0);
        for (int i = 1; i <= 29; i++) {
            CHECK.due("feed", x.feed(-1, 4), 4 * i);
        }
        CHECK.due("feed 3", x.feed(-1, 3), 119);
        CHECK.due("too many", x.feed(-1, 2), Check.FULL);
        CHECK.due("a wrong n first", x.feed(-1, 5), Check.BEYOND);
        CHECK.due("count(1)", x.count(1), 119);
        CHECK.due("the last", x.feed(-1, 1), 120);
        CHECK.due("none more", x.feed(-1, 1), Check.FULL);
        CHECK.due("wipe", x.wipe(), 120);
        CHECK.due("wipe again", x.wipe(), 0);
        CHECK.due("feed after wipe", x.feed(0, 4), 4);
    }

    private static void goodTexts() {
        HandleLoans x = new HandleLoans();
        CHECK.due("house", Check.readHouse(x, "handle from 0 to 1;brass from 2 to 3 wear 99;bone from 4 to 5 ; rope from 6 to 7"), 4);
        CHECK.due("house", Check.readHouse(x, "  knob from8to15wear0;latch   from 015 to 0000010 wear 007 ;member;member at 15;loan 30; loan 0 "), 6);
        int[][] want = {{0, 0, 1, 0}, {1, 2, 3, 99}, {2, 4, 5, 0}, {3, 6, 7, 0}, {4, 8, 15, 0}, {5, 15, 10, 7}};
        for (int h = 0; h < want.length; h++) {
            for (int what = 0; what < 4; what++) {
                CHECK.due("of(" + h + ", " + what + ")", x.of(h, what), want[h][what]);
            }
            CHECK.due("lent", x.of(h, 4), -1);
            CHECK.due("out", x.of(h, 5), 0);
        }
        CHECK.due("handles", x.count(0), 6);
        CHECK.due("members", x.count(2), 2);
        CHECK.due("at without a number", x.about(0, 0), 0);
        CHECK.due("at 15", x.about(1, 0), 15);
        CHECK.due("the later loan", x.now(5), 0);
        CHECK.due("no finding", x.status(-1), 0);
        x.place(1, 1, 3);
        x.days(2);
        CHECK.due("house", Check.readHouse(x, "member at 3"), 1);
        CHECK.due("the others stay", x.about(1, 1), 3);
        CHECK.due("day stays", x.now(0), 2);
    }

    private static void fault(String text, int place) {
        HandleLoans x = new HandleLoans();
        CHECK.due("house of '" + text + "'", Check.readHouse(x, text), -1 - place);
        CHECK.due("the tape is empty after '" + text + "'", x.count(1), 0);
        CHECK.due("no finding", x.status(-1), 0);
        CHECK.due("no handle", x.count(0), 0);
        CHECK.due("no member", x.count(2), 0);
        CHECK.due("the same loan", x.now(5), 5);
    }

    private static void faults() {
        fault("", 0);
        fault("   ", 3);
        fault(";", 0);
        fault(" ;", 1);
        fault("loan 5;", 7);
        fault("loan 5 ; ", 9);
        fault("loan 5;;loan 6", 7);
        fault("loan", 4);
        fault("loan ", 5);
        fault("loan5 6", 6);
        fault("loan loan", 5);
        fault("loan 5 member", 7);
        fault("loan 5 6", 7);
        fault("loan 5 at 6", 7);
        fault("door from 0 to 1", 0);
        fault("handles from 0 to 1", 0);
        fault("handl from 0 to 1", 0);
        fault("handlez from 0 to 1", 0);
        fault("aandle from 0 to 1", 0);
        fault("handle{from 0 to 1", 6);
        fault("handle`from 0 to 1", 6);
        fault("loan 5:", 6);
        fault("loan 5/", 6);
        fault("handlefrom 0 to 1", 0);
        fault("Handle from 0 to 1", 0);
        fault("5", 0);
        fault("from 0 to 1", 0);
        fault("wear 5", 0);
        fault("at 5", 0);
        fault("handle 0 to 1", 7);
        fault("handle fro 0 to 1", 7);
        fault("handle from to 1", 12);
        fault("handle from 0 1", 14);
        fault("handle from 0 wear 1", 14);
        fault("handle from 0 to", 16);
        fault("handle from 0 to  ", 18);
        fault("handle from 0 to;", 16);
        fault("handle from 0 to 1 wear", 23);
        fault("handle from 0 to 1 wear;", 23);
        fault("handle from 0 to 1 wear 5 wear 6", 26);
        fault("handle from 0 to 1 at 6", 19);
        fault("member at", 9);
        fault("member at at", 10);
        fault("member 5", 7);
        fault("member member", 7);
        fault("member wear 5", 7);
        fault("member\tat 5", 6);
        fault("member\n", 6);
        fault("member,member", 6);
        fault("loan -5", 5);
        fault("loan 5.", 6);
        fault("loan " + (char) 200, 5);
        fault("loan 5" + (char) 0, 6);
        fault("member; loan 7; brass from 1 to 2; loan 8 x", 42);
    }

    private static void faultsOfNumbers() {
        fault("handle from 16 to 1", 12);
        fault("handle from 0 to 16", 17);
        fault("handle from 0 to 1 wear 100", 24);
        fault("member at 16", 10);
        fault("loan 31", 5);
        fault("loan 999", 5);
        fault("loan 1000", 5);
        fault("loan 4294967296", 5);
        fault("loan 18446744073709551621", 5);
        fault("handle from 4294967297 to 1", 12);
        HandleLoans x = new HandleLoans();
        CHECK.due("a long row of 0s", Check.readHouse(x, "loan 00000000000000000000000000000000000000000003"), 1);
        CHECK.due("loan", x.now(5), 3);
    }

    private static void faultsOfLimits() {
        HandleLoans x = new HandleLoans();
        for (int h = 0; h < 7; h++) {
            x.handle(0, 0, 0);
        }
        for (int m = 0; m < 5; m++) {
            x.member(0);
        }
        CHECK.due("a 9th", Check.readHouse(x, "bone from 0 to 1; rope from 0 to 1"), -1 - 18);
        CHECK.due("none came", x.count(0), 7);
        CHECK.due("a 9th with a fault behind it", Check.readHouse(x, "bone from 0 to 1; rope from from"), -1 - 18);
        CHECK.due("a 7th", Check.readHouse(x, "member;loan 3;member at 16"), -1 - 14);
        CHECK.due("none came", x.count(2), 5);
        CHECK.due("the same loan", x.now(5), 5);
        CHECK.due("an 8th and a 6th", Check.readHouse(x, "member at 1;bone from 0 to 1"), 2);
        CHECK.due("handles", x.count(0), 8);
        CHECK.due("members", x.count(2), 6);
        CHECK.due("a 9th", Check.readHouse(x, "loan 1;latch"), -1 - 7);
        CHECK.due("a 7th", Check.readHouse(x, "loan 1;member"), -1 - 7);
        CHECK.due("no handle, so another word", Check.readHouse(x, "loan 1;members"), -1 - 7);
        CHECK.due("loans alone", Check.readHouse(x, "loan 1;loan 2"), 2);
    }

    private static void nothingChanges() {
        HandleLoans x = new HandleLoans();
        x.member(4);
        x.handle(3, 4, 6);
        x.lend(0, 0);
        x.days(3);
        CHECK.due("a fault", Check.readHouse(x, "member at 2;bone from 1 to 2;loan 2;loan"), -1 - 40);
        CHECK.due("members", x.count(2), 1);
        CHECK.due("handles", x.count(0), 1);
        CHECK.due("loan", x.now(5), 5);
        CHECK.due("out", x.of(0, 5), 3);
        CHECK.due("and then a good one", Check.readHouse(x, "bone from 1 to 2"), 1);
        CHECK.due("out", x.of(0, 5), 3);
        CHECK.due("lent", x.of(0, 4), 0);
        CHECK.due("the new one is not", x.of(1, 4), -1);
    }
}
