/** Promises 20 to 28: where one comes. */
public final class WaysTest {
    private static final Check CHECK = new Check();

    public static void main(String[] args) {
        reachAndWay();
        next();
        wanted();
        two();
        meet();
        kind();
        least();
        uses();
        CHECK.end();
    }

    private static void reachAndWay() {
        HandleLoans x = new HandleLoans();
        CHECK.due("reach of nobody", x.reach(0), Check.BEYOND);
        CHECK.due("way of nobody", x.way(0, 0), Check.BEYOND);
        x.member(0);
        CHECK.due("its own", x.reach(0), 1);
        CHECK.due("way to its own", x.way(0, 0), 0);
        CHECK.due("way -1", x.way(0, -1), Check.BEYOND);
        CHECK.due("way 16", x.way(0, 16), Check.BEYOND);
        x.handle(2, 0, 1);
        x.handle(0, 1, 2);
        x.handle(0, 2, 15);
        x.handle(0, 0, 15);
        x.lend(0, 0);
        x.lend(2, 0);
        CHECK.due("a gap", x.reach(0), 3);
        CHECK.due("no way over it", x.way(0, 2), Check.NONE);
        x.lend(1, 0);
        CHECK.due("no gap", x.reach(0), 7 | 1 << 15);
        CHECK.due("1 turn", x.way(0, 1), 1);
        CHECK.due("2 turns", x.way(0, 2), 2);
        CHECK.due("3 turns", x.way(0, 15), 3);
        CHECK.due("wear stays", x.now(4), 0);
        x.place(0, 0, 15);
        CHECK.due("a bone isn't let back", x.reach(0), 6 | 1 << 15);
        CHECK.due("no way back", x.way(0, 0), Check.NONE);
        x.set(1, 3, 98);
        CHECK.due("nearly worn out will do", x.way(0, 1), 2);
        x.set(1, 3, 99);
        CHECK.due("worn out", x.way(0, 1), Check.NONE);
        CHECK.due("member 1", x.reach(1), Check.BEYOND);
    }

    private static void next() {
        HandleLoans x = new HandleLoans();
        CHECK.due("next of nobody", x.next(0, 0), Check.BEYOND);
        x.member(0);
        CHECK.due("it is there", x.next(0, 0), Check.STATE);
        CHECK.due("no way", x.next(0, 1), Check.NONE);
        CHECK.due("next 16", x.next(0, 16), Check.BEYOND);
        x.handle(0, 4, 5);
        x.handle(0, 1, 5);
        x.handle(0, 0, 1);
        x.handle(0, 4, 0);
        x.lend(1, 0);
        x.lend(2, 0);
        x.lend(3, 0);
        CHECK.due("the greater one is on the way", x.next(0, 4), 3);
        CHECK.due("not the least held", x.next(0, 5), 2);
        CHECK.due("way", x.way(0, 5), 2);
        x.set(3, 1, 1);
        CHECK.due("of two such the least (a pair by set)", x.next(0, 5), 2);
        x.back(2);
        CHECK.due("without it the other", x.next(0, 5), 3);
        HandleLoans y = new HandleLoans();
        y.member(0);
        y.handle(0, 0, 4);
        y.handle(0, 0, 1);
        y.handle(2, 1, 5);
        y.handle(0, 4, 9);
        y.lend(0, 0);
        y.lend(1, 0);
        y.lend(2, 0);
        CHECK.due("the least leads astray", y.next(0, 5), 1);
        CHECK.due("the least for its own room", y.next(0, 4), 0);
    }

    private static void wanted() {
        HandleLoans x = new HandleLoans();
        CHECK.due("wanted of nobody", x.wanted(0, 0), Check.BEYOND);
        x.member(0);
        x.member(0);
        CHECK.due("it can", x.wanted(0, 0), Check.STATE);
        CHECK.due("none", x.wanted(0, 1), Check.NONE);
        CHECK.due("wanted 16", x.wanted(0, 16), Check.BEYOND);
        x.handle(0, 0, 1);
        x.handle(0, 1, 2);
        x.handle(2, 3, 0);
        x.handle(0, 2, 0);
        x.handle(0, 0, 2);
        CHECK.due("the least of two", x.wanted(0, 2), 3);
        CHECK.due("a bone from there is none", x.wanted(0, 3), Check.NONE);
        x.lend(3, 1);
        CHECK.due("what another holds is none", x.wanted(0, 2), 4);
        x.lend(0, 0);
        CHECK.due("by what it holds already", x.wanted(0, 2), 1);
        x.set(4, 2, 1);
        x.set(1, 3, 99);
        CHECK.due("worn out", x.wanted(0, 2), Check.NONE);
        x.set(1, 3, 0);
        x.set(1, 1, 0);
        x.set(0, 2, 2);
        x.set(0, 3, 99);
        CHECK.due("a pair with what it holds", x.wanted(0, 2), Check.NONE);
        CHECK.due("nothing is lent", x.now(2), 9);
        x.set(0, 1, 8);
        CHECK.due("not a pair", x.wanted(0, 2), 1);
        x.handle(0, 8, 9);
        x.handle(0, 9, 10);
        x.lend(5, 0);
        x.lend(6, 0);
        CHECK.due("it holds 3", x.wanted(0, 2), Check.NONE);
    }

    private static void two() {
        HandleLoans x = new HandleLoans();
        CHECK.due("two of nobody", x.two(0, 0), Check.BEYOND);
        x.member(0);
        CHECK.due("two, it can", x.two(0, 0), Check.STATE);
        CHECK.due("two, none", x.two(0, 1), Check.NONE);
        CHECK.due("two, room 16", x.two(0, 16), Check.BEYOND);
        x.handle(0, 9, 8);
        x.handle(0, 1, 2);
        x.handle(0, 3, 4);
        x.handle(0, 0, 1);
        CHECK.due("neither alone will do", x.wanted(0, 2), Check.NONE);
        CHECK.due("two", x.two(0, 2), 13);
        CHECK.due("one that does, with the least other", x.two(0, 1), 3);
        x.handle(0, 0, 3);
        CHECK.due("two others", x.two(0, 4), 24);
        x.lend(0, 0);
        CHECK.due("it holds 1", x.two(0, 2), 13);
        x.member(0);
        x.lend(2, 0);
        CHECK.due("it holds 2", x.two(0, 2), Check.NONE);
        x.back(2);
        CHECK.due("nothing is lent", x.now(2), 1);
        x.lend(3, 1);
        CHECK.due("what another holds is none", x.two(0, 2), Check.NONE);
        x.back(3);
        x.back(0);
        x.set(0, 1, 0);
        CHECK.due("two neighbours", x.two(0, 8), 1);
        // A knob 0 - 1 and a bone 1 - 0 would do together but are a pair.
        HandleLoans y = new HandleLoans();
        y.member(8);
        y.handle(4, 0, 1);
        y.handle(2, 1, 0);
        y.set(0, 3, 5);
        CHECK.due("the knob alone", y.wanted(0, 1), 0);
        CHECK.due("a pair can't be lent", y.two(0, 1), Check.NONE);
    }

    private static void meet() {
        HandleLoans x = new HandleLoans();
        x.member(0);
        CHECK.due("meet itself", x.meet(0, 0), Check.BEYOND);
        CHECK.due("meet nobody", x.meet(0, 1), Check.BEYOND);
        x.member(3);
        CHECK.due("never", x.meet(0, 1), Check.NONE);
        x.handle(0, 0, 1);
        x.lend(0, 0);
        CHECK.due("by what moves", x.meet(0, 1), 7);
        CHECK.due("the other way", x.meet(1, 0), 7);
        x.days(3);
        CHECK.due("3 days later", x.meet(0, 1), 4);
        x.place(1, 0, 1);
        CHECK.due("now", x.meet(0, 1), 0);
        x.place(1, 0, 0);
        CHECK.due("in one room", x.meet(0, 1), 0);
        x.back(0);
        x.place(1, 0, 15);
        x.lend(0, 0);
        x.loan(30);
        CHECK.due("in 44 days", x.meet(0, 1), 44);
        x.set(0, 2, 0);
        x.place(1, 0, 14);
        CHECK.due("still in 44", x.meet(0, 1), 44);
        x.turn(0, 4);
        CHECK.due("a knob never moves", x.meet(0, 1), Check.NONE);
        x.turn(0, 2);
        CHECK.due("a bone moves twice as far", x.meet(0, 1), 37);
        x.place(1, 0, 13);
        CHECK.due("but never to an odd room", x.meet(0, 1), Check.NONE);
        CHECK.due("day stays", x.now(0), 3);
        // A rope that is let back on even days only.
        HandleLoans y = new HandleLoans();
        y.member(5);
        y.member(2);
        y.handle(3, 2, 5);
        y.lend(0, 0);
        y.days(1);
        CHECK.due("tomorrow", y.meet(0, 1), 1);
    }

    private static void kind() {
        HandleLoans x = new HandleLoans();
        CHECK.due("kind of nobody's", x.kind(0, 0), Check.BEYOND);
        x.member(0);
        CHECK.due("kind of none", x.kind(0, 0), Check.BEYOND);
        x.handle(5, 0, 1);
        CHECK.due("doesn't hold it", x.kind(0, 0), Check.STATE);
        x.lend(0, 0);
        CHECK.due("all alike", x.kind(0, 0), 0);
        x.place(0, 0, 8);
        CHECK.due("a knob from opposite", x.kind(0, 0), 4);
        x.set(0, 3, 10);
        CHECK.due("not with more wear", x.kind(0, 0), 0);
        x.place(0, 0, 5);
        x.days(7);
        CHECK.due("a latch that is late, from its end", x.kind(0, 0), 5);
        x.place(0, 0, 3);
        CHECK.due("a handle from its end", x.kind(0, 0), 0);
        CHECK.due("it stays a latch", x.of(0, 0), 5);
        x.handle(0, 3, 12);
        x.handle(0, 5, 13);
        x.place(0, 0, 0);
        x.lend(1, 0);
        x.lend(2, 0);
        x.set(0, 3, 0);
        x.set(2, 2, 1);
        CHECK.due("a handle comes to 3 and 12, a bone to 5 and 1", x.kind(0, 0), 0);
        x.set(1, 3, 99);
        CHECK.due("a handle comes to 3 alone then", x.kind(0, 0), 2);
        CHECK.due("kind of handle 3", x.kind(0, 3), Check.BEYOND);
        CHECK.due("kind of member 1's", x.kind(1, 0), Check.BEYOND);
    }

    private static void least() {
        HandleLoans x = new HandleLoans();
        CHECK.due("least of nobody", x.least(0, 0), Check.BEYOND);
        x.member(0);
        CHECK.due("holds none", x.least(0, 60), 0);
        CHECK.due("least 61", x.least(0, 61), Check.BEYOND);
        CHECK.due("least -1", x.least(0, -1), Check.BEYOND);
        x.handle(0, 0, 1);
        x.handle(0, 1, 2);
        x.lend(0, 0);
        x.days(4);
        x.lend(1, 0);
        CHECK.due("of both", x.least(0, 6), 10);
        CHECK.due("today", x.least(0, 0), 0);
        CHECK.due("30", x.least(0, 26), 30);
        CHECK.due("with none", x.least(0, 27), Check.NONE);
        x.back(0);
        CHECK.due("of the other", x.least(0, 27), 27);
        x.place(0, 1, 9);
        CHECK.due("with fines", x.least(0, 27), 27);
        x.place(0, 1, 9999);
        CHECK.due("with all fines", x.least(0, 27), 0);
        CHECK.due("loan stays", x.now(5), 5);
    }

    private static void uses() {
        HandleLoans x = new HandleLoans();
        CHECK.due("uses of none", x.uses(0, 0), Check.BEYOND);
        x.handle(0, 0, 1);
        CHECK.due("uses 16", x.uses(0, 16), Check.BEYOND);
        CHECK.due("uses -1", x.uses(0, -1), Check.BEYOND);
        int[] fromStart = {99, 50, 1, 33, 99, 1};
        for (int k = 0; k < 6; k++) {
            x.turn(0, k);
            CHECK.due("uses of kind " + k, x.uses(0, 0), fromStart[k]);
            CHECK.due("from elsewhere", x.uses(0, 5), 0);
        }
        CHECK.due("wear stays", x.of(0, 3), 0);
        x.set(0, 2, 0);
        x.turn(0, 2);
        CHECK.due("a bone in one room", x.uses(0, 0), 50);
        x.turn(0, 5);
        CHECK.due("a latch in one room", x.uses(0, 0), 33);
        x.turn(0, 4);
        CHECK.due("a knob on day 0", x.uses(0, 8), 99);
        x.days(1);
        CHECK.due("a knob on day 1", x.uses(0, 8), 50);
        x.set(0, 3, 10);
        CHECK.due("no more from opposite", x.uses(0, 8), 0);
        x.turn(0, 0);
        CHECK.due("89 are left", x.uses(0, 0), 89);
        x.set(0, 3, 98);
        CHECK.due("1 is left", x.uses(0, 0), 1);
    }
}
