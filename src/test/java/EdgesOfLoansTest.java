/** The edges that promises 13 to 19 name: loans, uses, days. */
public final class EdgesOfLoansTest {
    private static final Check CHECK = new Check();

    public static void main(String[] args) {
        lend();
        back();
        use();
        days();
        daysAtTheEnd();
        now();
        on();
        late();
        CHECK.end();
    }

    private static Edges sentence(String words) {
        return new Edges(CHECK, words);
    }

    private static Edges furnished(String words) {
        return Edges.furnished(CHECK, words);
    }

    private static void lend() {
        furnished("13: BEYOND: no such HANDLE").range("lend # 1", 0, Check.STATE, 5, 2);
        furnished("13: BEYOND: no such MEMBER").range("lend 2 #", 0, 3, 1, 2);
        furnished("13: BEYOND: neither").refuses("lend 6 2", Check.BEYOND).refuses("lend -1 -1", Check.BEYOND);
        furnished("13: BEYOND ahead of STATE").refuses("lend 0 2", Check.BEYOND).refuses("lend 0 -1", Check.BEYOND);
        furnished("13: STATE: it is LENT, to that member or to another").refuses("lend 0 0", Check.STATE)
            .refuses("lend 0 1", Check.STATE).with("back 0").tries("lend 0 0", 2).tries("lend 0 1", 2);
        furnished("13: FULL: the member holds 3").does("lend 2 0", 3).refuses("lend 4 0", Check.FULL).refuses("lend 5 0", Check.FULL)
            .does("lend 4 1", 2).does("lend 5 1", 3).asks("now 2", 63);
        furnished("13: STATE ahead of FULL").with("lend 2 0").refuses("lend 3 0", Check.STATE).refuses("lend 2 0", Check.STATE);
        furnished("13: KIND: it holds one that is a PAIR with it").with("handle 5 2 1")
            .refuses("lend 6 0", Check.KIND).tries("lend 6 1", 2).with("back 1").does("lend 6 0", 2).refuses("lend 1 0", Check.KIND);
        furnished("13: FULL ahead of KIND").with("handle 5 2 1", "lend 2 0").refuses("lend 6 0", Check.FULL);
        furnished("13: STATE ahead of KIND").with("handle 5 2 1", "lend 6 1").refuses("lend 6 0", Check.STATE);
        furnished("13: a PAIR that nobody holds is no hindrance").with("handle 5 2 3").does("lend 6 0", 3).tries("lend 2 1", 2);
        sentence("13: how many the member holds then").with("member 0", "handle 0 0 1", "handle 0 1 2", "handle 0 2 3")
            .does("lend 2 0", 1).does("lend 0 0", 2).does("lend 1 0", 3);
    }

    private static void back() {
        furnished("14: BEYOND").range("back #", 0, 6, 5, Check.STATE);
        furnished("14: OUT is 0 then").does("back 0", 6).asks("of 0 5", 0).asks("of 0 4", -1).asks("about 0 2", 2)
            .asks("of 0 3", 1).asks("about 0 1", 2);
        furnished("14: STATE: it isn't LENT").refuses("back 2", Check.STATE).does("back 0", 6).refuses("back 0", Check.STATE);
        sentence("14: back on the same day").with("member 0", "handle 0 0 1", "lend 0 0").does("back 0", 0).refuses("back 0", Check.STATE);
    }

    private static void use() {
        furnished("15: BEYOND: no such MEMBER").with("place 0 0 0").range("use # 0", 0, 3, 1, Check.STATE);
        furnished("15: BEYOND: no such HANDLE").with("place 0 0 0").range("use 0 #", 0, 3, 5, Check.STATE);
        furnished("15: BEYOND: neither").refuses("use 2 6", Check.BEYOND);
        furnished("15: STATE: it doesn't hold it, though it OPENS there").with("place 0 0 5").refuses("use 0 5", Check.STATE)
            .with("back 0").does("lend 5 0", 2).does("use 0 5", 4);
        furnished("15: STATE: another holds it").refuses("use 0 3", Check.STATE).does("use 1 3", 2);
        furnished("15: STATE: it doesn't OPEN there").refuses("use 0 0", Check.STATE).with("place 0 0 3").does("use 0 0", 0);
        furnished("15: STATE: it is worn out").with("place 0 0 0", "set 0 3 98").does("use 0 0", 3).asks("of 0 3", 99)
            .refuses("use 0 0", Check.STATE).asks("about 0 0", 3);
        furnished("15: STATE: brass is worn out").with("place 0 0 1", "set 1 3 49").does("use 0 1", 4).asks("of 1 3", 50)
            .refuses("use 0 1", Check.STATE);
    }

    private static void days() {
        furnished("16: BEYOND: 1 to 60").range("days #", 1, 25, 60, 202);
        furnished("16: BEYOND: 0").refuses("days 0", Check.BEYOND);
        furnished("16: n DAYS go").does("days 60", 202).asks("now 0", 66).asks("of 0 5", 66).asks("of 2 5", 0)
            .asks("about 0 1", 122).asks("about 1 1", 80).asks("of 0 3", 1);
        sentence("16: without MEMBERS").does("days 1", 0).does("days 60", 0).asks("now 0", 61);
    }

    private static void daysAtTheEnd() {
        Edges late = sentence("16: STATE: DAY would be above 9999").with("member 0", "handle 0 0 1", "lend 0 0")
            .with(165, "days 60").with("days 40").asks("now 0", 9940);
        late.refuses("days 60", Check.STATE).tries("days 59", 9994);
        late.with("days 58").asks("now 0", 9998).refuses("days 2", Check.STATE).does("days 1", 9994).asks("now 0", 9999)
            .refuses("days 1", Check.STATE).asks("of 0 5", 9999).asks("about 0 1", 9994);
        late.refuses("days 61", Check.BEYOND).refuses("days 0", Check.BEYOND).refuses("days " + Integer.MAX_VALUE, Check.BEYOND);
        late.asks("on 0 5 0", 9999).asks("on 0 60 0", 9999).asks("late 0", 0);
    }

    private static void now() {
        furnished("17: BEYOND").range("now #", 0, 6, 5, 4);
        furnished("17: each what").asks("now 1", 22).asks("now 2", 11).asks("now 3", 11).asks("now 4", 8);
        Edges all = sentence("17: WEAR of all, FINES of all at most");
        for (int h = 0; h < 8; h++) {
            all.with("handle 0 " + h + " " + h, "set " + h + " 3 99");
        }
        for (int m = 0; m < 6; m++) {
            all.with("member 0", "place " + m + " 1 9999");
        }
        all.asks("now 1", 59994).asks("now 4", 792);
        for (int h = 0; h < 8; h++) {
            all.with("lend " + h + " " + h % 6);
        }
        all.asks("now 2", 255).asks("now 3", 0).with("loan 0", "days 1").asks("now 3", 255);
    }

    private static void on() {
        furnished("18: BEYOND: no such MEMBER").range("on # 0 0", 0, 2, 1, 20);
        furnished("18: BEYOND: n, FINES").range("on 0 # 0", 0, 2, 60, 122);
        // On day 66 handle 0 is out for 66 days: END is 1 + 62, round: 15; that of handle 1 is 0.
        furnished("18: BEYOND: n, REACH").with("place 0 0 0").range("on 0 # 1", 0, 9, 60, 1 << 15 | 3);
        furnished("18: BEYOND: what").range("on 0 60 #", 0, 122, 1, 4);
        furnished("18: BEYOND: all").refuses("on 2 61 2", Check.BEYOND);
        furnished("18: nothing changes").asks("on 0 60 0", 122).asks("on 1 60 0", 80).asks("on 1 60 1", 8 | 1 << 14);
        sentence("18: a LOAN that ends ON just that DAY").with("member 0", "handle 0 0 1", "lend 0 0")
            .asks("on 0 5 0", 0).asks("on 0 6 0", 1).asks("on 0 7 0", 2).asks("on 0 5 1", 3).asks("on 0 6 1", 5)
            .with("loan 30").asks("on 0 30 0", 0).asks("on 0 31 0", 1).asks("on 0 60 0", 30);
        sentence("18: FINES are held ON, too").with("member 0", "handle 0 0 1", "lend 0 0", "loan 0", "place 0 1 9940")
            .asks("on 0 58 0", 9998).asks("on 0 59 0", 9999).asks("on 0 60 0", 9999);
    }

    private static void late() {
        furnished("19: BEYOND").range("late #", 0, 0, 5, Check.NONE);
        furnished("19: NONE: nobody has it").refuses("late 2", Check.NONE).with("back 0").refuses("late 0", Check.NONE);
        sentence("19: in how many DAYS, from LOAN + 1 down to 0").with("member 0", "handle 4 0 1", "lend 0 0")
            .asks("late 0", 6).with("days 4").asks("late 0", 2).with("days 1").asks("late 0", 1).with("days 1").asks("late 0", 0)
            .with("days 1").asks("late 0", 0).with("loan 30").asks("late 0", 24).with("loan 7").asks("late 0", 1)
            .with("loan 6").asks("late 0", 0);
        sentence("19: the shortest and the longest").with("member 0", "handle 0 0 1", "lend 0 0")
            .with("loan 0").asks("late 0", 1).with("loan 30").asks("late 0", 31);
    }
}
