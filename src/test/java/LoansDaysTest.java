/** Promises 13 to 19: loans, uses, days. */
public final class LoansDaysTest {
    private static final Check CHECK = new Check();

    public static void main(String[] args) {
        lend();
        back();
        use();
        days();
        finesAreHeld();
        lastDay();
        now();
        on();
        late();
        CHECK.end();
    }

    private static void lend() {
        HandleLoans x = new HandleLoans();
        CHECK.due("lend nothing", x.lend(0, 0), Check.BEYOND);
        for (int h = 0; h < 5; h++) {
            x.handle(0, h, h + 1);
        }
        CHECK.due("lend to nobody", x.lend(0, 0), Check.BEYOND);
        x.member(0);
        x.member(0);
        x.handle(0, 1, 0);
        CHECK.due("lend handle 6", x.lend(6, 0), Check.BEYOND);
        CHECK.due("lend to -1", x.lend(0, -1), Check.BEYOND);
        CHECK.due("1st", x.lend(0, 0), 1);
        CHECK.due("it is lent", x.lend(0, 0), Check.STATE);
        CHECK.due("it is lent to another", x.lend(0, 1), Check.STATE);
        CHECK.due("a pair", x.lend(5, 0), Check.KIND);
        CHECK.due("a pair with another's is fine", x.lend(5, 1), 1);
        CHECK.due("2nd", x.lend(1, 0), 2);
        CHECK.due("3rd", x.lend(2, 0), 3);
        CHECK.due("4th", x.lend(3, 0), Check.FULL);
        x.back(5);
        CHECK.due("full ahead of pair", x.lend(5, 0), Check.FULL);
        x.lend(3, 1);
        CHECK.due("lent ahead of full", x.lend(3, 0), Check.STATE);
        CHECK.due("to whom", x.of(3, 4), 1);
        CHECK.due("to nobody", x.of(4, 4), -1);
    }

    private static void back() {
        HandleLoans x = new HandleLoans();
        CHECK.due("back nothing", x.back(0), Check.BEYOND);
        x.handle(0, 0, 1);
        x.member(0);
        CHECK.due("back what isn't lent", x.back(0), Check.STATE);
        x.days(3);
        x.lend(0, 0);
        CHECK.due("back at once", x.back(0), 0);
        x.lend(0, 0);
        x.days(9);
        CHECK.due("out", x.of(0, 5), 9);
        CHECK.due("back", x.back(0), 9);
        CHECK.due("out is 0", x.of(0, 5), 0);
        CHECK.due("lent to nobody", x.of(0, 4), -1);
        CHECK.due("back again", x.back(0), Check.STATE);
        CHECK.due("back -1", x.back(-1), Check.BEYOND);
        x.days(2);
        CHECK.due("out stays 0", x.of(0, 5), 0);
    }

    private static void use() {
        HandleLoans x = new HandleLoans();
        CHECK.due("nobody uses", x.use(0, 0), Check.BEYOND);
        x.member(3);
        CHECK.due("uses nothing", x.use(0, 0), Check.BEYOND);
        x.handle(0, 3, 7);
        CHECK.due("doesn't hold it", x.use(0, 0), Check.STATE);
        x.lend(0, 0);
        CHECK.due("there", x.use(0, 0), 7);
        CHECK.due("and back", x.use(0, 0), 3);
        CHECK.due("wear", x.of(0, 3), 2);
        x.set(0, 3, 98);
        CHECK.due("once more", x.use(0, 0), 7);
        CHECK.due("worn out", x.use(0, 0), Check.STATE);
        CHECK.due("at", x.about(0, 0), 7);
        x.turn(0, 5);
        x.set(0, 3, 97);
        x.place(0, 0, 3);
        CHECK.due("a latch", x.use(0, 0), 7);
        CHECK.due("wear is 99 at most", x.of(0, 3), 99);
        x.set(0, 3, 0);
        CHECK.due("a latch doesn't open at its end", x.use(0, 0), Check.STATE);
        x.place(0, 0, 3);
        x.turn(0, 3);
        x.use(0, 0);
        CHECK.due("a rope wears 3", x.of(0, 3), 3);
        x.turn(0, 4);
        x.use(0, 0);
        CHECK.due("a knob wears 0 on day 0", x.of(0, 3), 3);
        x.days(1);
        x.use(0, 0);
        CHECK.due("a knob wears 1 on day 1", x.of(0, 3), 4);
        x.member(3);
        CHECK.due("another doesn't hold it", x.use(1, 0), Check.STATE);
        CHECK.due("member 2", x.use(2, 0), Check.BEYOND);
        CHECK.due("handle 1", x.use(0, 1), Check.BEYOND);
    }

    private static void days() {
        HandleLoans x = new HandleLoans();
        CHECK.due("days 0", x.days(0), Check.BEYOND);
        CHECK.due("days 61", x.days(61), Check.BEYOND);
        CHECK.due("days -1", x.days(-1), Check.BEYOND);
        x.member(0);
        x.member(1);
        x.handle(0, 0, 1);
        x.handle(0, 1, 2);
        x.handle(0, 2, 3);
        x.lend(0, 0);
        x.lend(1, 0);
        CHECK.due("5 days", x.days(5), 0);
        CHECK.due("a 6th", x.days(1), 2);
        x.lend(2, 1);
        CHECK.due("6 more", x.days(6), 15);
        CHECK.due("fines of 0", x.about(0, 1), 14);
        CHECK.due("fines of 1", x.about(1, 1), 1);
        x.loan(30);
        CHECK.due("with a longer loan", x.days(1), 15);
        x.loan(0);
        CHECK.due("with none", x.days(1), 18);
        x.back(0);
        x.lend(0, 0);
        CHECK.due("lent anew, none", x.days(60), 198);
        CHECK.due("day", x.now(0), 74);
    }

    private static void finesAreHeld() {
        HandleLoans x = new HandleLoans();
        x.member(0);
        x.handle(0, 0, 1);
        x.handle(0, 1, 2);
        x.lend(0, 0);
        x.lend(1, 0);
        x.loan(0);
        x.place(0, 1, 9998);
        CHECK.due("on 1", x.on(0, 1, 0), 9999);
        CHECK.due("days", x.days(2), 9999);
        CHECK.due("fines", x.about(0, 1), 9999);
        CHECK.due("least with most fines", x.least(0, 60), 0);
    }

    private static void lastDay() {
        HandleLoans x = new HandleLoans();
        x.member(1);
        x.handle(3, 0, 1);
        x.lend(0, 0);
        for (int i = 0; i < 166; i++) {
            x.days(60);
        }
        CHECK.due("day", x.now(0), 9960);
        CHECK.due("one too many", x.days(40), Check.STATE);
        CHECK.due("a wrong n first", x.days(61), Check.BEYOND);
        CHECK.due("day stays", x.now(0), 9960);
        CHECK.due("out stays", x.of(0, 5), 9960);
        CHECK.due("to the last", x.days(39), 9994);
        CHECK.due("day", x.now(0), 9999);
        CHECK.due("none more", x.days(1), Check.STATE);
        CHECK.due("fines ahead are held", x.on(0, 9, 0), 9999);
        x.back(0);
        x.lend(0, 0);
        CHECK.due("the rope on an odd day", x.on(0, 0, 1), 2);
        CHECK.due("and on the day behind the last", x.on(0, 1, 1), 3);
    }

    private static void now() {
        HandleLoans x = new HandleLoans();
        x.member(0);
        x.member(0);
        x.handle(0, 0, 1);
        x.handle(0, 1, 2);
        x.handle(0, 2, 3);
        x.lend(2, 0);
        x.days(2);
        x.lend(0, 1);
        x.days(4);
        x.set(0, 3, 1);
        x.set(1, 3, 49);
        x.set(2, 3, 99);
        x.place(1, 1, 20);
        int[] want = {6, 21, 5, 4, 149, 5};
        for (int what = 0; what < want.length; what++) {
            CHECK.due("now(" + what + ")", x.now(what), want[what]);
        }
        CHECK.due("now(-1)", x.now(-1), Check.BEYOND);
        CHECK.due("now(6)", x.now(6), Check.BEYOND);
    }

    private static void on() {
        HandleLoans x = new HandleLoans();
        CHECK.due("on nobody", x.on(0, 0, 0), Check.BEYOND);
        x.member(0);
        x.handle(0, 0, 1);
        x.handle(3, 4, 0);
        x.lend(0, 0);
        x.lend(1, 0);
        CHECK.due("on 0 fines", x.on(0, 0, 0), 0);
        CHECK.due("on 5 fines", x.on(0, 5, 0), 0);
        CHECK.due("on 6 fines", x.on(0, 6, 0), 2);
        CHECK.due("on 60 fines", x.on(0, 60, 0), 110);
        CHECK.due("on 0 reach", x.on(0, 0, 1), 1 | 2 | 16);
        CHECK.due("on 1 reach", x.on(0, 1, 1), 1 | 2);
        CHECK.due("on 6 reach", x.on(0, 6, 1), 1 | 4);
        CHECK.due("on 9 reach", x.on(0, 9, 1), 1 | 32);
        CHECK.due("on 61", x.on(0, 61, 0), Check.BEYOND);
        CHECK.due("on -1", x.on(0, -1, 0), Check.BEYOND);
        CHECK.due("on what 2", x.on(0, 0, 2), Check.BEYOND);
        CHECK.due("on what -1", x.on(0, 0, -1), Check.BEYOND);
        CHECK.due("day stays", x.now(0), 0);
        CHECK.due("out stays", x.of(0, 5), 0);
        CHECK.due("fines stay", x.about(0, 1), 0);
    }

    private static void late() {
        HandleLoans x = new HandleLoans();
        CHECK.due("late, no handle", x.late(0), Check.BEYOND);
        x.handle(0, 0, 1);
        x.member(0);
        CHECK.due("not lent", x.late(0), Check.NONE);
        x.lend(0, 0);
        CHECK.due("just lent", x.late(0), 6);
        x.loan(30);
        CHECK.due("longest", x.late(0), 31);
        x.loan(0);
        CHECK.due("shortest", x.late(0), 1);
        x.days(1);
        CHECK.due("late now", x.late(0), 0);
        x.days(7);
        CHECK.due("long since", x.late(0), 0);
        CHECK.due("late -1", x.late(-1), Check.BEYOND);
    }
}
