/** Promises 32 to 42: sheets, images, counts. */
public final class SheetsImagesTest {
    private static final Check CHECK = new Check();

    public static void main(String[] args) {
        sheet();
        write();
        copy();
        lays();
        book();
        read();
        images();
        undoneHandlesAreNew();
        counts();
        status();
        CHECK.end();
    }

    private static void sheet() {
        HandleLoans x = new HandleLoans();
        CHECK.due("sheet -1", x.sheet(-1, 8, 1), Check.BEYOND);
        CHECK.due("sheet 4", x.sheet(4, 8, 1), Check.BEYOND);
        CHECK.due("bits 32", x.sheet(0, 32, 1), Check.BEYOND);
        CHECK.due("bits -1", x.sheet(0, -1, 1), Check.BEYOND);
        CHECK.due("bits ahead of size", x.sheet(0, 7, -1), Check.BEYOND);
        CHECK.due("n -1", x.sheet(0, 8, -1), Check.SIZE);
        CHECK.due("n -1, bits 0", x.sheet(0, 0, -1), Check.SIZE);
        CHECK.due("n 41", x.sheet(0, 8, 41), Check.BEYOND);
        CHECK.due("n 41, bits 0", x.sheet(0, 0, 41), Check.BEYOND);
        CHECK.due("still missing", x.write(0, 0, 1), Check.MISSING);
        CHECK.due("8 bits", x.sheet(0, 8, 40), 40);
        CHECK.due("16 bits", x.sheet(1, 16, 0), 0);
        CHECK.due("64 bits", x.sheet(3, 64, 1), 1);
        for (int i = 0; i < 40; i++) {
            CHECK.due("all 0", x.write(0, i, 7), 0);
        }
        CHECK.due("anew", x.sheet(0, 16, 3), 3);
        CHECK.due("all 0 again", x.write(0, 2, 1), 0);
        CHECK.due("no more", x.write(0, 3, 1), Check.BEYOND);
        CHECK.due("missing", x.sheet(0, 0, 40), 0);
        CHECK.due("it is", x.write(0, 0, 1), Check.MISSING);
        CHECK.due("anew", x.sheet(0, 16, 3), 3);
        CHECK.due("all 0 again", x.write(0, 2, 1), 0);
    }

    private static void wrote(HandleLoans x, int s, long v, long want) {
        x.write(s, 0, v);
        CHECK.due("sheet " + s + " got " + v, x.write(s, 0, 0), want);
    }

    private static void write() {
        HandleLoans x = new HandleLoans();
        x.sheet(0, 8, 2);
        x.sheet(1, 16, 2);
        x.sheet(2, 64, 2);
        CHECK.due("sheet -1", x.write(-1, 0, 0), Check.BEYOND);
        CHECK.due("sheet 4", x.write(4, 0, 0), Check.BEYOND);
        CHECK.due("missing ahead of i", x.write(3, 9, 0), Check.MISSING);
        CHECK.due("i -1", x.write(0, -1, 0), Check.BEYOND);
        CHECK.due("i 2", x.write(0, 2, 0), Check.BEYOND);
        wrote(x, 0, 127, 127);
        wrote(x, 0, 256 + 5, 5);
        wrote(x, 0, 128, -128);
        wrote(x, 0, -1, -1);
        wrote(x, 1, 32767, 32767);
        wrote(x, 1, 65536L * 3 + 9, 9);
        wrote(x, 1, 32768, -32768);
        wrote(x, 1, 200, 200);
        wrote(x, 2, Long.MIN_VALUE, Long.MIN_VALUE);
        wrote(x, 2, Long.MAX_VALUE, Long.MAX_VALUE);
        wrote(x, 2, Check.BEYOND, Check.BEYOND);
        CHECK.due("findings", x.status(-1), 5);
    }

    private static void fill(HandleLoans x, int s, long... numbers) {
        for (int i = 0; i < numbers.length; i++) {
            x.write(s, i, numbers[i]);
        }
    }

    private static void copy() {
        HandleLoans x = new HandleLoans();
        x.sheet(0, 16, 5);
        x.sheet(1, 16, 3);
        x.sheet(2, 8, 5);
        fill(x, 0, 1, 2, 3, 4, 5);
        CHECK.due("sheet -1", x.copy(-1, 0, 1, 0, 1), Check.BEYOND);
        CHECK.due("to sheet 4", x.copy(3, 0, 4, 0, 1), Check.BEYOND);
        CHECK.due("missing", x.copy(3, 0, 1, 0, 1), Check.MISSING);
        CHECK.due("to a missing one", x.copy(0, 0, 3, 0, 1), Check.MISSING);
        CHECK.due("other bits ahead of size", x.copy(0, 0, 2, 0, 9), Check.KIND);
        CHECK.due("from -1", x.copy(0, -1, 1, 0, 1), Check.BEYOND);
        CHECK.due("to -1", x.copy(0, 0, 1, -1, 1), Check.BEYOND);
        CHECK.due("n -1", x.copy(0, 1, 1, 1, -1), Check.BEYOND);
        CHECK.due("not so many there", x.copy(0, 0, 1, 0, 4), Check.BEYOND);
        CHECK.due("not so many here", x.copy(0, 3, 1, 0, 3), Check.BEYOND);
        CHECK.due("far beyond", x.copy(0, Integer.MAX_VALUE, 1, 0, Integer.MAX_VALUE), Check.BEYOND);
        CHECK.due("far beyond there", x.copy(0, 1, 1, Integer.MAX_VALUE, 1), Check.BEYOND);
        CHECK.due("far below", x.copy(0, Integer.MIN_VALUE, 1, 0, Integer.MIN_VALUE), Check.BEYOND);
        CHECK.due("none from the end", x.copy(0, 5, 1, 3, 0), 0);
        CHECK.due("none from behind the end", x.copy(0, 6, 1, 3, 0), Check.BEYOND);
        CHECK.due("two", x.copy(0, 3, 1, 1, 2), 2);
        CHECK.due("0th", x.write(1, 0, 0), 0);
        CHECK.due("1st", x.write(1, 1, 0), 4);
        CHECK.due("2nd", x.write(1, 2, 0), 5);
        CHECK.due("all onto itself", x.copy(0, 0, 0, 0, 5), 5);
        CHECK.due("onto itself, up", x.copy(0, 0, 0, 1, 4), 4);
        long[] up = {1, 1, 2, 3, 4};
        for (int i = 0; i < up.length; i++) {
            CHECK.due("number " + i, x.write(0, i, i + 10), up[i]);
        }
        CHECK.due("onto itself, down", x.copy(0, 1, 0, 0, 4), 4);
        long[] down = {11, 12, 13, 14, 14};
        for (int i = 0; i < down.length; i++) {
            CHECK.due("number " + i, x.write(0, i, 0), down[i]);
        }
    }

    private static void lays() {
        HandleLoans x = new HandleLoans();
        CHECK.due("sheet -1", x.lays(-1), Check.BEYOND);
        CHECK.due("sheet 4", x.lays(4), Check.BEYOND);
        CHECK.due("missing", x.lays(0), Check.MISSING);
        x.sheet(0, 64, 5);
        CHECK.due("no handles", x.lays(0), 0);
        for (int h = 0; h < 4; h++) {
            x.handle(0, 0, h);
            x.set(h, 3, 50 + h);
        }
        fill(x, 0, 99, 100, -1, 0, 7);
        CHECK.due("lays", x.lays(0), 2);
        int[] want = {99, 51, 52, 0};
        for (int h = 0; h < want.length; h++) {
            CHECK.due("wear of " + h, x.of(h, 3), want[h]);
        }
        fill(x, 0, 1L << 32, (1L << 32) + 5, Long.MIN_VALUE, 1L << 63 | 3, 1);
        CHECK.due("too great", x.lays(0), 0);
        x.sheet(0, 8, 2);
        CHECK.due("two", x.lays(0), 2);
        CHECK.due("wear of 2 stays", x.of(2, 3), 52);
        x.sheet(0, 8, 0);
        CHECK.due("an empty one", x.lays(0), 0);
    }

    private static void book() {
        HandleLoans x = new HandleLoans();
        CHECK.due("sheet 4", x.book(4, 9), Check.BEYOND);
        CHECK.due("missing ahead of member", x.book(0, 9), Check.MISSING);
        x.sheet(0, 16, 9);
        CHECK.due("nobody", x.book(0, 0), Check.BEYOND);
        x.member(0);
        x.handle(0, 0, 1);
        x.handle(0, 1, 2);
        x.lend(0, 0);
        x.days(2);
        x.lend(1, 0);
        x.place(0, 1, 4);
        CHECK.due("book", x.book(0, 0), 9);
        long[] want = {4, 4, 4, 4, 5, 6, 8, 10, 12};
        for (int d = 0; d < want.length; d++) {
            CHECK.due("on " + d, x.write(0, d, 0), want[d]);
        }
        x.sheet(0, 8, 1);
        x.place(0, 1, 256 + 200);
        x.book(0, 0);
        CHECK.due("its lowest bits", x.write(0, 0, 0), 200 - 256);
        x.sheet(0, 64, 0);
        CHECK.due("an empty book", x.book(0, 0), 0);
        CHECK.due("day stays", x.now(0), 2);
    }

    private static void read() {
        HandleLoans x = new HandleLoans();
        CHECK.due("sheet 4", x.read(4, 9), Check.BEYOND);
        CHECK.due("missing ahead of member", x.read(0, 9), Check.MISSING);
        x.sheet(0, 64, 0);
        CHECK.due("nobody", x.read(0, 0), Check.BEYOND);
        x.member(3);
        CHECK.due("an empty one", x.read(0, 0), 0);
        x.sheet(0, 64, 4);
        CHECK.due("not the first", x.read(0, 0), 1);
        fill(x, 0, 3, 3, 3, 3);
        CHECK.due("it can't stay", x.read(0, 0), 2);
        x.handle(0, 3, 7);
        x.handle(2, 7, 9);
        x.lend(0, 0);
        fill(x, 0, 3, 7, 3, 7);
        CHECK.due("to and fro", x.read(0, 0), 0);
        fill(x, 0, 3, 7, 9, 7);
        CHECK.due("not yet held", x.read(0, 0), 3);
        x.lend(1, 0);
        CHECK.due("a bone isn't let back", x.read(0, 0), 4);
        x.turn(1, 0);
        CHECK.due("a handle is", x.read(0, 0), 0);
        x.set(0, 3, 98);
        fill(x, 0, 3, 7, 3, 7);
        CHECK.due("without wear", x.read(0, 0), 0);
        x.set(0, 3, 99);
        CHECK.due("worn out", x.read(0, 0), 2);
        fill(x, 0, (1L << 32) + 3);
        CHECK.due("no room, 2 to the 32nd farther", x.read(0, 0), 1);
        fill(x, 0, 3, -9);
        CHECK.due("no room, below 0", x.read(0, 0), 2);
        fill(x, 0, 3, 19);
        CHECK.due("no room, 16 farther", x.read(0, 0), 2);
        fill(x, 0, 3, 35 + 4);
        CHECK.due("no room, 32 farther", x.read(0, 0), 2);
        CHECK.due("at stays", x.about(0, 0), 3);
        x.place(0, 0, 0);
        x.set(1, 1, 0);
        x.set(1, 2, 15);
        fill(x, 0, 0, 15, 0, 15);
        CHECK.due("the first and the last room", x.read(0, 0), 0);
        x.place(0, 0, 3);
        // A handle whose two rooms are one leads from it to it.
        x.set(1, 1, 3);
        x.set(1, 2, 3);
        fill(x, 0, 3, 3, 3, 3);
        CHECK.due("it can stay", x.read(0, 0), 0);
    }

    private static void images() {
        HandleLoans x = new HandleLoans();
        CHECK.due("nothing is kept", x.undo(), Check.NONE);
        CHECK.due("tear nothing", x.tear(), 0);
        x.member(2);
        x.handle(3, 2, 4);
        x.lend(0, 0);
        x.days(7);
        x.sheet(0, 8, 3);
        CHECK.due("image", x.image(), 1);
        x.loan(9);
        x.days(5);
        x.use(0, 0);
        x.turn(0, 1);
        x.set(0, 1, 9);
        x.set(0, 2, 9);
        x.back(0);
        x.handle(0, 0, 0);
        x.member(0);
        x.place(0, 0, 11);
        x.place(0, 1, 77);
        x.feed(0, 3);
        x.sheet(1, 8, 3);
        x.of(9, 9);
        for (int again = 0; again < 2; again++) {
            CHECK.due("undo", x.undo(), 1);
            int[] of = {3, 2, 4, 0, 0, 7, 1, 6, 3};
            for (int what = 0; what < of.length; what++) {
                CHECK.due("of(0, " + what + ")", x.of(0, what), of[what]);
            }
            int[] now = {7, 2, 1, 1, 0, 5};
            for (int what = 0; what < now.length; what++) {
                CHECK.due("now(" + what + ")", x.now(what), now[what]);
            }
            CHECK.due("at", x.about(0, 0), 2);
            CHECK.due("fines", x.about(0, 1), 2);
            CHECK.due("members", x.count(2), 1);
            CHECK.due("the tape stays", x.count(1), 3);
            CHECK.due("sheets stay", x.lays(1), 1);
            CHECK.due("findings stay", x.status(-1), 2);
            x.days(60);
            x.handle(0, 0, 0);
        }
        x.set(0, 3, 42);
        x.image();
        x.set(0, 3, 43);
        CHECK.due("the latest", x.undo(), 2);
        CHECK.due("wear", x.of(0, 3), 42);
        CHECK.due("tear", x.tear(), 1);
        CHECK.due("tear again", x.tear(), 0);
        CHECK.due("undo", x.undo(), Check.NONE);
        CHECK.due("wear stays", x.of(0, 3), 42);
    }

    private static void undoneHandlesAreNew() {
        HandleLoans x = new HandleLoans();
        x.image();
        x.member(1);
        x.handle(0, 1, 2);
        x.set(0, 3, 9);
        x.lend(0, 0);
        x.days(9);
        CHECK.due("undo", x.undo(), 0);
        CHECK.due("no members", x.count(2), 0);
        x.member(3);
        x.handle(1, 4, 5);
        int[] of = {1, 4, 5, 0, -1, 0, 0, 5, 1};
        for (int what = 0; what < of.length; what++) {
            CHECK.due("of(0, " + what + ")", x.of(0, what), of[what]);
        }
        CHECK.due("fines", x.about(0, 1), 0);
        CHECK.due("holds", x.about(0, 2), 0);
    }

    private static void counts() {
        HandleLoans x = new HandleLoans();
        x.handle(0, 1, 2);
        x.handle(0, 2, 1);
        x.handle(0, 1, 2);
        x.member(0);
        x.member(0);
        x.feed(0, 4);
        int[] want = {3, 4, 2, 3};
        for (int what = 0; what < want.length; what++) {
            CHECK.due("count(" + what + ")", x.count(what), want[what]);
        }
        CHECK.due("count(4)", x.count(4), Check.BEYOND);
        CHECK.due("count(-1)", x.count(-1), Check.BEYOND);
    }

    private static void status() {
        HandleLoans x = new HandleLoans();
        x.member(16);
        for (int i = 0; i < 7; i++) {
            x.member(0);
        }
        x.member(0);
        x.handle(0, 0, 0);
        x.as(0, 1);
        x.as(0, 2);
        x.as(0, 3);
        for (int i = 0; i < 4; i++) {
            x.way(0, 9);
        }
        for (int i = 0; i < 5; i++) {
            x.back(0);
        }
        for (int i = 0; i < 6; i++) {
            x.lays(0);
            x.write(0, 0, 0);
        }
        for (int i = 0; i < 7; i++) {
            x.sheet(0, 8, -1);
        }
        int[] want = {1, 2, 3, 4, 5, 12, 7};
        int all = 0;
        for (int which = 0; which < want.length; which++) {
            CHECK.due("status(" + which + ")", x.status(which), want[which]);
            all += want[which];
        }
        CHECK.due("status(-1)", x.status(-1), all);
        CHECK.due("status(7)", x.status(7), Check.BEYOND);
        CHECK.due("it counts", x.status(0), 2);
        CHECK.due("status(-2)", x.status(-2), Check.BEYOND);
        CHECK.due("it counts, too", x.status(-1), all + 2);
        x.house();
        CHECK.due("a fault is no finding", x.status(-1), all + 2);
    }
}
