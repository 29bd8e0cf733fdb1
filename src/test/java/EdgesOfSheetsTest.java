/** The edges that promises 32 to 37 name: sheets. */
public final class EdgesOfSheetsTest {
    private static final Check CHECK = new Check();
    private static final int[] BITS = {8, 16, 64};

    public static void main(String[] args) {
        sheet();
        write();
        itsLowestBits();
        copy();
        copyOntoItself();
        lays();
        book();
        read();
        readRooms();
        CHECK.end();
    }

    private static Edges sentence(String words) {
        return new Edges(CHECK, words);
    }

    private static Edges furnished(String words) {
        return Edges.furnished(CHECK, words);
    }

    private static void sheet() {
        furnished("32: BEYOND: no such sheet").range("sheet # 8 1", 0, 1, 3, 1);
        Edges bits = furnished("32: BEYOND: other bits");
        for (int other : new int[] {-1, 1, 7, 9, 15, 17, 32, 63, 65, -8, 128, Integer.MAX_VALUE, Integer.MIN_VALUE}) {
            bits.refuses("sheet 0 " + other + " 1", Check.BEYOND).refuses("sheet 3 " + other + " 0", Check.BEYOND);
        }
        for (int b : BITS) {
            furnished("32: " + b + " bits: SIZE: n is below 0").refuses("sheet 0 " + b + " -1", Check.SIZE)
                .refuses("sheet 3 " + b + " -1", Check.SIZE).refuses("sheet 0 " + b + " " + Integer.MIN_VALUE, Check.SIZE)
                .tries("sheet 0 " + b + " 0", 0);
            furnished("32: " + b + " bits: BEYOND: n is above 40").refuses("sheet 0 " + b + " 41", Check.BEYOND)
                .refuses("sheet 3 " + b + " " + Integer.MAX_VALUE, Check.BEYOND).tries("sheet 0 " + b + " 40", 40);
            furnished("32: " + b + " bits: an empty one isn't MISSING").does("sheet 0 " + b + " 0", 0).refuses("write 0 0 1", Check.BEYOND)
                .asks("lays 0", 0);
            furnished("32: " + b + " bits: all 0").does("sheet 1 " + b + " 3", 3).tries("write 1 0 1", 0).tries("write 1 1 1", 0)
                .tries("write 1 2 1", 0).refuses("write 1 3 1", Check.BEYOND);
            full("32: " + b + " bits: 40 numbers, all 0", b);
        }
        furnished("32: bits 0: SIZE: n is below 0").refuses("sheet 0 0 -1", Check.SIZE).refuses("sheet 3 0 -1", Check.SIZE);
        furnished("32: bits 0: BEYOND: n is above 40").refuses("sheet 0 0 41", Check.BEYOND).refuses("sheet 3 0 41", Check.BEYOND);
        furnished("32: bits 0: 0, however many").tries("sheet 0 0 0", 0).tries("sheet 0 0 1", 0).does("sheet 0 0 40", 0)
            .refuses("write 0 0 1", Check.MISSING).does("sheet 0 8 1", 1).asks("write 0 0 0", 0);
        furnished("32: bits 0 of one that is MISSING").asks("sheet 3 0 0", 0).asks("sheet 3 0 40", 0);
        furnished("32: BEYOND (sheet, bits) ahead of SIZE").refuses("sheet 4 8 -1", Check.BEYOND).refuses("sheet -1 8 -1", Check.BEYOND)
            .refuses("sheet 0 7 -1", Check.BEYOND).refuses("sheet 4 0 -1", Check.BEYOND);
    }

    private static void full(String words, int bits) {
        HandleLoans x = new HandleLoans();
        for (int again = 0; again < 2; again++) {
            CHECK.due(words, x.sheet(2, bits, 40), 40);
            for (int i = 0; i < 40; i++) {
                CHECK.due(words + ": number " + i, x.write(2, i, i + 1), 0);
            }
            CHECK.due(words + ": no number 40", x.write(2, 40, 1), Check.BEYOND);
            for (int i = 0; i < 40; i++) {
                CHECK.due(words + ": what was number " + i, x.write(2, i, 100), i + 1);
            }
        }
    }

    private static void write() {
        furnished("33: BEYOND: no such sheet").range("write # 0 0", 0, 0, 3, Check.MISSING);
        furnished("33: MISSING").refuses("write 3 0 5", Check.MISSING);
        furnished("33: BEYOND: no such number").range("write 1 # 5", 0, 300, 2, 0).range("write 0 # 5", 0, 0, 1, 9)
            .range("write 2 # 5", 0, -5, 0, -5);
        furnished("33: BEYOND (sheet) ahead of MISSING").refuses("write 4 0 5", Check.BEYOND);
        furnished("33: MISSING ahead of BEYOND (number)").refuses("write 3 -1 5", Check.MISSING).refuses("write 3 40 5", Check.MISSING);
        furnished("33: one number becomes v, the others stay").does("write 0 0 3", 0).asks("write 0 0 3", 3).asks("write 0 1 9", 9)
            .does("write 0 1 4", 9).asks("write 0 0 3", 3).asks("write 1 1 0", 0);
    }

    private static void becomes(int bits, long v, long want) {
        sentence("33: " + v + " in " + bits + " bits").with("sheet 0 " + bits + " 1").does("write 0 0 " + v, 0).tries("write 0 0 0", want);
    }

    private static void itsLowestBits() {
        long[][] eight = {{0, 0}, {1, 1}, {127, 127}, {128, -128}, {255, -1}, {256, 0}, {257, 1}, {-1, -1}, {-128, -128}, {-129, 127},
            {Long.MAX_VALUE, -1}, {Long.MIN_VALUE, 0}};
        for (long[] row : eight) {
            becomes(8, row[0], row[1]);
        }
        long[][] sixteen = {{128, 128}, {255, 255}, {256, 256}, {32767, 32767}, {32768, -32768}, {65535, -1}, {65536, 0}, {65537, 1},
            {-1, -1}, {-32768, -32768}, {-32769, 32767}, {Long.MAX_VALUE, -1}, {Long.MIN_VALUE, 0}};
        for (long[] row : sixteen) {
            becomes(16, row[0], row[1]);
        }
        long[] all = {65536, 1L << 31, 1L << 32, -1, Long.MAX_VALUE, Long.MIN_VALUE, -999999999};
        for (long v : all) {
            becomes(64, v, v);
        }
        HandleLoans x = new HandleLoans();
        x.sheet(0, 64, 1);
        for (long number = -1000000008; number <= -1000000000; number++) {
            x.write(0, 0, number);
            CHECK.due("33: a number like a finding", x.write(0, 0, 0), number);
        }
        CHECK.due("33: a number like a finding is none", x.status(-1), 0);
    }

    /** Sheets 0 (1 2 3 4 5) and 1 (6 7 8) of 16 bits, 2 of 8 bits; 3 is missing. */
    private static Edges threeSheets(String words) {
        return sentence(words).with("member 0", "handle 0 0 1", "sheet 0 16 5", "write 0 0 1", "write 0 1 2", "write 0 2 3", "write 0 3 4",
            "write 0 4 5", "sheet 1 16 3", "write 1 0 6", "write 1 1 7", "write 1 2 8", "sheet 2 8 5");
    }

    private static void isRow(Edges edges, int s, int... numbers) {
        for (int i = 0; i < numbers.length; i++) {
            edges.asks("write " + s + " " + i + " " + numbers[i], numbers[i]);
        }
    }

    private static void copy() {
        threeSheets("34: BEYOND: no such sheet").range("copy # 0 1 0 1", 0, 1, 3, Check.MISSING);
        threeSheets("34: BEYOND: no such sheet to come to").range("copy 0 0 # 0 1", 0, 1, 3, Check.MISSING);
        threeSheets("34: BEYOND (either sheet) ahead of MISSING").refuses("copy 3 0 4 0 1", Check.BEYOND).refuses("copy 4 0 3 0 1", Check.BEYOND);
        threeSheets("34: MISSING: one is, or both are").refuses("copy 3 0 0 0 1", Check.MISSING).refuses("copy 0 0 3 0 1", Check.MISSING)
            .refuses("copy 3 0 3 0 0", Check.MISSING);
        threeSheets("34: MISSING ahead of BEYOND").refuses("copy 3 -1 0 0 1", Check.MISSING).refuses("copy 0 0 3 9 99", Check.MISSING);
        threeSheets("34: KIND: not of as many bits").refuses("copy 0 0 2 0 1", Check.KIND).refuses("copy 2 0 0 0 1", Check.KIND)
            .refuses("copy 2 0 1 0 0", Check.KIND).with("sheet 3 64 5").refuses("copy 0 0 3 0 1", Check.KIND)
            .refuses("copy 3 0 2 0 1", Check.KIND).with("sheet 2 16 5").tries("copy 0 0 2 0 1", 1);
        threeSheets("34: KIND ahead of BEYOND").refuses("copy 0 -1 2 0 1", Check.KIND).refuses("copy 0 0 2 0 6", Check.KIND);
        threeSheets("34: BEYOND: from").range("copy 0 # 1 0 3", 0, 3, 2, 3).range("copy 0 # 1 0 1", 0, 1, 4, 1);
        threeSheets("34: BEYOND: to").range("copy 0 0 1 # 1", 0, 1, 2, 1).range("copy 1 0 0 # 3", 0, 3, 2, 3);
        threeSheets("34: BEYOND: n").range("copy 0 0 1 0 #", 0, 0, 3, 3).range("copy 1 0 0 0 #", 0, 0, 3, 3)
            .range("copy 0 0 0 0 #", 0, 0, 5, 5).range("copy 0 4 1 0 #", 0, 0, 1, 1).range("copy 0 0 1 2 #", 0, 0, 1, 1);
        threeSheets("34: none, at the ends").asks("copy 0 5 1 3 0", 0).refuses("copy 0 5 1 3 1", Check.BEYOND)
            .refuses("copy 0 6 1 3 0", Check.BEYOND).refuses("copy 0 5 1 4 0", Check.BEYOND);
        int most = Integer.MAX_VALUE;
        int least = Integer.MIN_VALUE;
        threeSheets("34: sums that wrap around").refuses("copy 0 " + most + " 1 0 1", Check.BEYOND)
            .refuses("copy 0 1 1 0 " + most, Check.BEYOND).refuses("copy 0 0 1 " + most + " " + most, Check.BEYOND)
            .refuses("copy 0 " + most + " 1 " + most + " " + most, Check.BEYOND)
            .refuses("copy 0 " + least + " 1 0 " + least, Check.BEYOND).refuses("copy 0 0 1 " + least + " " + least, Check.BEYOND)
            .refuses("copy 0 2 1 2 -1", Check.BEYOND);
        Edges some = threeSheets("34: from one on, to one on").does("copy 0 1 1 1 2", 2);
        isRow(some, 1, 6, 2, 3);
        isRow(some, 0, 1, 2, 3, 4, 5);
        Edges none = threeSheets("34: none").asks("copy 0 0 1 0 0", 0);
        isRow(none, 1, 6, 7, 8);
    }

    private static void copyOntoItself() {
        Edges up = threeSheets("34: as they all were, up").does("copy 0 0 0 1 4", 4);
        isRow(up, 0, 1, 1, 2, 3, 4);
        Edges down = threeSheets("34: as they all were, down").does("copy 0 1 0 0 4", 4);
        isRow(down, 0, 2, 3, 4, 5, 5);
        Edges same = threeSheets("34: as they all were, onto the same").asks("copy 0 0 0 0 5", 5);
        isRow(same, 0, 1, 2, 3, 4, 5);
        threeSheets("34: onto itself, one too many").refuses("copy 0 1 0 0 5", Check.BEYOND).refuses("copy 0 0 0 1 5", Check.BEYOND);
        HandleLoans x = new HandleLoans();
        x.sheet(0, 64, 40);
        x.sheet(1, 64, 40);
        for (int i = 0; i < 40; i++) {
            x.write(0, i, -i);
        }
        CHECK.due("34: all 40", x.copy(0, 0, 1, 0, 40), 40);
        CHECK.due("34: 41", x.copy(0, 0, 1, 0, 41), Check.BEYOND);
        CHECK.due("34: none behind all 40", x.copy(0, 40, 1, 40, 0), 0);
        for (int i = 0; i < 40; i++) {
            CHECK.due("34: number " + i, x.write(1, i, 0), -i);
        }
    }

    private static void lays() {
        furnished("35: BEYOND: no such sheet").range("lays #", 0, 2, 3, Check.MISSING);
        furnished("35: MISSING").refuses("lays 3", Check.MISSING).does("sheet 3 8 1", 1).does("lays 3", 1);
        long[][] rows = {{0, 1, 0}, {99, 1, 99}, {100, 0, 42}, {-1, 0, 42}, {1L << 32, 0, 42}, {(1L << 32) + 7, 0, 42}, {Long.MIN_VALUE, 0, 42},
            {Long.MAX_VALUE, 0, 42}, {-1L << 32, 0, 42}};
        for (long[] row : rows) {
            sentence("35: those that aren't 0 to 99 are left out").with("handle 0 0 1", "set 0 3 42", "sheet 0 64 1", "write 0 0 " + row[0])
                .does("lays 0", row[1]).asks("of 0 3", row[2]);
        }
        sentence("35: in 8 bits, 200 is left out, too").with("handle 0 0 1", "set 0 3 42", "sheet 0 8 1", "write 0 0 200")
            .asks("lays 0", 0).with("write 0 0 256").does("lays 0", 1).asks("of 0 3", 0);
        sentence("35: those that stand for no HANDLE are left out").with("handle 0 0 1", "handle 0 1 2", "sheet 0 16 4", "write 0 0 5", "write 0 1 6")
            .does("lays 0", 2).asks("of 0 3", 5).asks("of 1 3", 6);
        sentence("35: no HANDLES").with("sheet 0 16 4").asks("lays 0", 0);
        sentence("35: an empty sheet").with("handle 0 0 1", "set 0 3 42", "sheet 0 16 0").asks("lays 0", 0);
        sentence("35: fewer numbers than HANDLES").with("handle 0 0 1", "handle 0 1 2", "set 1 3 42", "sheet 0 16 1", "write 0 0 5")
            .does("lays 0", 1).asks("of 0 3", 5).asks("of 1 3", 42);
        sentence("35: one left out keeps its place").with(3, "handle 0 0 1").with("set 1 3 42", "sheet 0 16 3", "write 0 0 5", "write 0 1 100", "write 0 2 6")
            .does("lays 0", 2).asks("of 0 3", 5).asks("of 1 3", 42).asks("of 2 3", 6);
        sentence("35: all 8 HANDLES").with(8, "handle 0 0 1").with("sheet 0 16 40", "write 0 7 99").does("lays 0", 8).asks("of 7 3", 99);
    }

    private static void book() {
        furnished("36: BEYOND: no such sheet").range("book # 0", 0, 2, 3, Check.MISSING);
        furnished("36: MISSING").refuses("book 3 0", Check.MISSING);
        furnished("36: BEYOND: member").range("book 1 #", 0, 3, 1, 3);
        furnished("36: BEYOND (sheet) ahead of MISSING").refuses("book 4 2", Check.BEYOND);
        furnished("36: MISSING ahead of BEYOND (member)").refuses("book 3 2", Check.MISSING).refuses("book 3 -1", Check.MISSING);
        Edges some = furnished("36: ON 0, 1, 2 DAYS").does("book 1 0", 3);
        isRow(some, 1, 2, 4, 6);
        furnished("36: an empty sheet").with("sheet 0 8 0").asks("book 0 0", 0);
        furnished("36: FINES in 8 bits").with("place 1 1 126").does("book 0 1", 2).tries("write 0 0 0", 126).tries("write 0 1 0", 127)
            .with("place 1 1 127").does("book 0 1", 2).tries("write 0 0 0", 127).tries("write 0 1 0", -128)
            .with("place 1 1 255").does("book 0 1", 2).tries("write 0 0 0", -1).tries("write 0 1 0", 0);
        furnished("36: FINES are held to 9999").with("place 1 1 9998").does("book 1 1", 3).tries("write 1 0 0", 9998)
            .tries("write 1 1 0", 9999).tries("write 1 2 0", 9999);
        HandleLoans x = new HandleLoans();
        x.member(0);
        x.handle(0, 0, 1);
        x.lend(0, 0);
        x.loan(30);
        x.sheet(0, 8, 40);
        CHECK.due("36: all 40", x.book(0, 0), 40);
        for (int d = 0; d < 40; d++) {
            CHECK.due("36: ON " + d, x.write(0, d, 0), Math.max(0, d - 30));
        }
        CHECK.due("36: DAY stays", x.now(0), 0);
        CHECK.due("36: FINES stay", x.now(1), 0);
    }

    private static void read() {
        furnished("37: BEYOND: no such sheet").range("read # 0", 0, 1, 3, Check.MISSING);
        furnished("37: MISSING").refuses("read 3 0", Check.MISSING);
        furnished("37: BEYOND: member").range("read 1 #", 0, 1, 1, 1);
        furnished("37: BEYOND (sheet) ahead of MISSING").refuses("read 4 2", Check.BEYOND);
        furnished("37: MISSING ahead of BEYOND (member)").refuses("read 3 2", Check.MISSING).refuses("read 3 -1", Check.MISSING);
        furnished("37: an empty sheet").with("sheet 0 8 0").asks("read 0 0", 0).refuses("read 0 2", Check.BEYOND);
        sentence("37: BEYOND (member) of an empty sheet").with("sheet 0 8 0").refuses("read 0 0", Check.BEYOND);
        furnished("37: one number").with("sheet 0 8 1", "write 0 0 2").asks("read 0 0", 0).asks("read 0 1", 1)
            .with("write 0 0 1").asks("read 0 0", 1).with("write 0 0 3").asks("read 0 1", 0);
        HandleLoans x = new HandleLoans();
        x.member(0);
        x.handle(0, 0, 1);
        x.lend(0, 0);
        x.sheet(0, 8, 40);
        for (int i = 0; i < 40; i++) {
            x.write(0, i, i % 2);
        }
        CHECK.due("37: all 40", x.read(0, 0), 0);
        for (int i = 0; i < 40; i++) {
            long was = x.write(0, i, 7);
            CHECK.due("37: 1 and the place " + i, x.read(0, 0), 1 + i);
            x.write(0, i, was);
        }
        x.set(0, 3, 98);
        CHECK.due("37: without WEAR", x.read(0, 0), 0);
        CHECK.due("37: WEAR stays", x.of(0, 3), 98);
        CHECK.due("37: AT stays", x.about(0, 0), 0);
        x.set(0, 3, 99);
        CHECK.due("37: worn out", x.read(0, 0), 2);
    }

    private static Edges aWay(String words, long... numbers) {
        Edges edges = sentence(words).with("member 0", "handle 0 0 15", "handle 2 15 8", "lend 0 0", "lend 1 0", "sheet 0 64 " + numbers.length);
        for (int i = 0; i < numbers.length; i++) {
            edges.with("write 0 " + i + " " + numbers[i]);
        }
        return edges;
    }

    private static void readRooms() {
        aWay("37: the first and the last ROOM", 0, 15, 0, 15, 8).asks("read 0 0", 0);
        aWay("37: a BONE isn't let back", 0, 15, 8, 15).asks("read 0 0", 4);
        aWay("37: it can't stay", 0, 0).asks("read 0 0", 2);
        aWay("37: it can't leap", 0, 8).asks("read 0 0", 2);
        aWay("37: not what another holds", 0, 15, 8).with("back 1").asks("read 0 0", 3).with("member 0", "lend 1 1").asks("read 0 0", 3);
        aWay("37: it can stay where both ROOMS are one", 0, 0, 0).with("set 1 1 0", "set 1 2 0").asks("read 0 0", 0);
        long[] no = {16, -1, -16, 32, 47, 1L << 32, (1L << 32) + 15, Long.MAX_VALUE, Long.MIN_VALUE, -1L << 32};
        for (long number : no) {
            aWay("37: " + number + " is no ROOM, first", number).asks("read 0 0", 1);
            aWay("37: " + number + " is no ROOM, behind others", 0, 15, number).asks("read 0 0", 3);
        }
    }
}
