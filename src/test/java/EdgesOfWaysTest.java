/** The edges that promises 20 to 28 name: where one comes. */
public final class EdgesOfWaysTest {
    private static final Check CHECK = new Check();

    public static void main(String[] args) {
        reach();
        way();
        next();
        wanted();
        wantedAsLendingAllows();
        two();
        twoAsLendingAllows();
        meet();
        kind();
        least();
        uses();
        CHECK.end();
    }

    private static Edges sentence(String words) {
        return new Edges(CHECK, words);
    }

    private static Edges furnished(String words) {
        return Edges.furnished(CHECK, words);
    }

    /** A member in room 9 whose three handles make the longest way: by 2, 1, 4 and 5 to 12. */
    private static Edges longWay(String words) {
        return sentence(words).with("member 9", "handle 4 1 2", "handle 0 1 4", "handle 4 12 5", "lend 0 0", "lend 1 0", "lend 2 0");
    }

    private static void reach() {
        furnished("20: BEYOND").range("reach #", 0, 4, 1, 12);
        sentence("20: BEYOND: nobody yet").refuses("reach 0", Check.BEYOND);
        sentence("20: its own alone").with("member 0", "member 15").asks("reach 0", 1).asks("reach 1", 32768);
        longWay("20: again and again").asks("reach 0", 1 << 9 | 1 << 2 | 1 << 1 | 1 << 4 | 1 << 5 | 1 << 12);
    }

    private static void way() {
        furnished("21: BEYOND: no such MEMBER").range("way # 2", 0, 0, 1, 1);
        sentence("21: BEYOND: room").with("member 0", "handle 0 0 15", "lend 0 0").range("way 0 #", 0, 0, 15, 1);
        furnished("21: BEYOND: neither").refuses("way 2 16", Check.BEYOND);
        furnished("21: NONE").refuses("way 0 3", Check.NONE).refuses("way 1 0", Check.NONE).asks("way 1 3", 0);
        longWay("21: the fewest uses, from 0 to 5").asks("way 0 9", 0).asks("way 0 2", 1).asks("way 0 1", 2).asks("way 0 4", 3)
            .asks("way 0 5", 4).asks("way 0 12", 5).refuses("way 0 3", Check.NONE)
            .with("set 1 1 9").asks("way 0 4", 1).asks("way 0 12", 3);
        longWay("21: without WEAR").with("set 0 3 9", "set 1 3 98", "set 2 3 9").asks("way 0 12", 5)
            .with("set 0 3 10").refuses("way 0 12", Check.NONE);
    }

    private static void next() {
        furnished("22: BEYOND: no such MEMBER").range("next # 2", 0, Check.STATE, 1, 3);
        sentence("22: BEYOND: room").with("member 0", "handle 0 0 15", "lend 0 0").range("next 0 #", 0, Check.STATE, 15, 0);
        furnished("22: BEYOND: neither").refuses("next 2 16", Check.BEYOND);
        furnished("22: STATE: it is there").refuses("next 0 2", Check.STATE).refuses("next 1 3", Check.STATE);
        sentence("22: STATE ahead of a way round").with("member 4", "handle 0 4 4", "lend 0 0").refuses("next 0 4", Check.STATE);
        furnished("22: NONE").refuses("next 0 3", Check.NONE).refuses("next 1 15", Check.NONE);
        longWay("22: the first of these uses").asks("next 0 12", 0).asks("next 0 2", 0)
            .with("place 0 0 4").asks("next 0 12", 2).asks("next 0 1", 1);
        sentence("22: of several such ways the least").with("member 0", "handle 0 5 6", "handle 0 0 1", "handle 0 0 1", "handle 0 1 0")
            .with("set 2 1 7", "set 3 2 8", "lend 1 0", "lend 2 0", "lend 3 0", "set 2 1 0", "set 3 2 0")
            .asks("next 0 1", 1).with("set 1 3 99").asks("next 0 1", 2).with("set 2 3 99").asks("next 0 1", 3)
            .with("set 3 3 99").refuses("next 0 1", Check.NONE);
        sentence("22: the least only of the shortest").with("member 0", "handle 0 0 1", "handle 0 1 2", "handle 0 0 2")
            .with("lend 0 0", "lend 1 0", "lend 2 0").asks("next 0 2", 2).asks("next 0 1", 0);
    }

    private static void wanted() {
        furnished("23: BEYOND: no such MEMBER").range("wanted # 2", 0, Check.STATE, 1, Check.STATE);
        sentence("23: BEYOND: room").with("member 0", "handle 0 0 15").range("wanted 0 #", 0, Check.STATE, 15, 0);
        furnished("23: BEYOND: neither").refuses("wanted 2 16", Check.BEYOND);
        furnished("23: STATE: it can").refuses("wanted 0 2", Check.STATE).refuses("wanted 1 2", Check.STATE);
        sentence("23: STATE also by what it holds").with("member 0", "handle 0 0 1", "handle 0 1 2", "lend 0 0", "lend 1 0")
            .refuses("wanted 0 2", Check.STATE).with("back 1").asks("wanted 0 2", 1);
        furnished("23: NONE").refuses("wanted 0 15", Check.NONE).asks("wanted 0 3", 2);
        sentence("23: NONE: no HANDLES").with("member 0").refuses("wanted 0 1", Check.NONE);
        sentence("23: the least").with("member 0").with(7, "handle 0 5 6").with("handle 0 0 1").asks("wanted 0 1", 7)
            .with("set 3 1 1", "set 3 2 0").asks("wanted 0 1", 3).with("set 0 1 0", "set 0 2 1").asks("wanted 0 1", 0);
    }

    private static void wantedAsLendingAllows() {
        sentence("23: as LENDING allows: it is LENT to nobody").with("member 0", "member 0", "handle 0 0 1", "handle 0 0 1", "lend 0 1")
            .asks("wanted 0 1", 1).with("back 0").asks("wanted 0 1", 0);
        sentence("23: as LENDING allows: holds at most 2")
            .with("member 0", "handle 0 0 1", "handle 0 5 6", "handle 0 6 7", "handle 0 7 8", "lend 1 0", "lend 2 0")
            .asks("wanted 0 1", 0).with("lend 3 0").refuses("wanted 0 1", Check.NONE);
        sentence("23: as LENDING allows: no PAIR with what it holds")
            .with("member 0", "handle 0 1 0", "handle 0 0 1", "lend 0 0", "set 0 3 99").refuses("wanted 0 1", Check.NONE)
            .with("set 0 1 2").asks("wanted 0 1", 1);
        sentence("23: LENT now it isn't LATE").with("member 0", "handle 5 1 0", "loan 0").refuses("wanted 0 1", Check.NONE);
    }

    private static void two() {
        furnished("24: BEYOND: no such MEMBER").range("two # 2", 0, Check.STATE, 1, Check.STATE);
        sentence("24: BEYOND: room").with("member 0", "handle 0 0 1", "handle 0 1 15").range("two 0 #", 0, Check.STATE, 15, 1);
        furnished("24: BEYOND: neither").refuses("two 2 16", Check.BEYOND);
        furnished("24: STATE").refuses("two 0 2", Check.STATE).refuses("two 1 2", Check.STATE);
        furnished("24: NONE").refuses("two 1 15", Check.NONE).refuses("two 0 15", Check.NONE);
        sentence("24: NONE: no HANDLES, one HANDLE").with("member 0").refuses("two 0 1", Check.NONE)
            .with("handle 0 0 1").refuses("two 0 1", Check.NONE).with("handle 0 8 9").asks("two 0 1", 1);
        sentence("24: NONE of 8 HANDLES").with("member 0").with(8, "handle 0 5 6").refuses("two 0 5", Check.NONE).refuses("wanted 0 5", Check.NONE)
            .refuses("next 0 5", Check.NONE).refuses("way 0 5", Check.NONE);
        sentence("24: the last two").with("member 0").with(6, "handle 0 5 6").with("handle 0 0 1", "handle 0 1 2").asks("two 0 2", 67)
            .with("set 7 1 2", "set 7 2 1").asks("two 0 2", 67);
        sentence("24: those tried ahead are not LENT").with("member 0", "handle 0 5 6", "handle 0 6 7", "handle 0 7 8", "handle 0 0 1", "handle 0 1 2")
            .asks("two 0 2", 34).asks("wanted 0 1", 3);
        sentence("24: of several the least").with("member 0", "handle 0 1 2", "handle 0 3 2", "handle 0 0 3", "handle 0 0 1")
            .asks("two 0 2", 3).with("set 0 3 99").asks("two 0 2", 12).with("set 1 3 99").refuses("two 0 2", Check.NONE);
    }

    private static void twoAsLendingAllows() {
        sentence("24: LENT one after the other: holds at most 1")
            .with("member 0", "handle 0 0 1", "handle 0 1 2", "handle 0 6 7", "handle 0 7 8").asks("two 0 2", 1)
            .with("lend 2 0").asks("two 0 2", 1).with("lend 3 0").refuses("two 0 2", Check.NONE);
        sentence("24: LENT one after the other: the two are no PAIR")
            .with("member 8", "handle 4 0 1", "handle 2 1 0").asks("wanted 0 1", 0).refuses("two 0 1", Check.NONE)
            .with("set 1 2 3").asks("two 0 1", 1);
        sentence("24: LENT one after the other: the lesser is no PAIR with what it holds")
            .with("member 0", "handle 0 0 1", "handle 0 1 2", "handle 0 1 0", "lend 2 0", "set 2 3 99").refuses("two 0 2", Check.NONE)
            .with("set 2 1 5").asks("two 0 2", 1);
        sentence("24: LENT one after the other: the other is no PAIR with what it holds")
            .with("member 0", "handle 0 0 1", "handle 0 1 2", "handle 0 2 1", "lend 2 0", "set 2 3 99").refuses("two 0 2", Check.NONE)
            .with("set 2 1 5").asks("two 0 2", 1);
        sentence("24: neither may be LENT").with("member 0", "member 0", "handle 0 0 1", "handle 0 1 2")
            .with("lend 0 1").refuses("two 0 2", Check.NONE).with("back 0", "lend 1 1").refuses("two 0 2", Check.NONE)
            .with("back 1").asks("two 0 2", 1);
    }

    private static void meet() {
        furnished("25: BEYOND: no such MEMBER").with("member 2").range("meet # 2", 0, 0, 2, Check.BEYOND);
        furnished("25: BEYOND: no such other").with("member 2").range("meet 2 #", 0, 0, 2, Check.BEYOND);
        furnished("25: BEYOND: also one and the same").refuses("meet 0 0", Check.BEYOND).refuses("meet 1 1", Check.BEYOND)
            .refuses("meet 2 2", Check.BEYOND).asks("meet 0 1", 0).asks("meet 1 0", 0);
        sentence("25: in one ROOM now").with("member 7", "member 7").asks("meet 0 1", 0);
        sentence("25: NONE").with("member 7", "member 8").refuses("meet 0 1", Check.NONE).refuses("meet 1 0", Check.NONE)
            .with("place 1 0 7").asks("meet 0 1", 0);
        sentence("25: on the first DAY that it is LATE").with("member 0", "member 2", "handle 0 0 1", "lend 0 0").asks("meet 0 1", 6)
            .with("loan 30").asks("meet 0 1", 31).with("loan 0").asks("meet 0 1", 1).with("days 1").asks("meet 0 1", 0);
        // The latch lets member 0 from its END (8 and 16 days over) to 2; the handle is at its TO again 16 days over.
        sentence("25: as late as can be").with("member 5", "member 9", "handle 5 2 5", "handle 0 2 9", "lend 0 0", "lend 1 1", "loan 30")
            .asks("meet 0 1", 46).asks("meet 1 0", 46).with("days 30").asks("meet 0 1", 16).with("days 16").asks("meet 0 1", 0);
        sentence("25: FINES and DAY stay").with("member 0", "member 3", "handle 4 0 1", "lend 0 0", "loan 0").refuses("meet 0 1", Check.NONE);
    }

    private static void kind() {
        furnished("26: BEYOND: no such MEMBER").range("kind # 0", 0, 0, 1, Check.STATE);
        furnished("26: BEYOND: no such HANDLE").range("kind 0 #", 0, 0, 5, Check.STATE);
        furnished("26: BEYOND: neither").refuses("kind 2 6", Check.BEYOND);
        furnished("26: STATE: nobody holds it, another does").refuses("kind 0 2", Check.STATE).refuses("kind 0 3", Check.STATE)
            .tries("lend 2 0", 3).with("lend 2 0").asks("kind 0 2", 0);
        for (int kind = 0; kind <= 5; kind++) {
            sentence("26: of several the least, whatever it is").with("member 0", "handle " + kind + " 0 1", "lend 0 0").asks("kind 0 0", 0);
        }
        sentence("26: KNOB from the room opposite").with("member 8", "handle 0 0 1", "lend 0 0").asks("kind 0 0", 4)
            .with("set 0 3 9").asks("kind 0 0", 4).with("set 0 3 10").asks("kind 0 0", 0);
        // Late by 1: END is 2, that of a BONE 3, that of a KNOB 1.
        Edges late = sentence("26: LATE: each KIND has its END").with("member 2", "handle 0 0 1", "lend 0 0", "loan 0", "days 1");
        late.asks("kind 0 0", 0).with("place 0 0 3").asks("kind 0 0", 5).with("place 0 0 1").asks("kind 0 0", 4)
            .with("place 0 0 0").asks("kind 0 0", 0);
        late.with("handle 0 3 7", "lend 1 0").asks("kind 0 0", 2)
            .with("set 1 1 1").asks("kind 0 0", 4).with("set 1 1 2").asks("kind 0 0", 0);
        sentence("26: BRASS and KNOB are worn out at 50").with("member 0", "handle 1 0 1", "lend 0 0", "set 0 3 50").asks("kind 0 0", 0)
            .asks("of 0 0", 1);
    }

    private static void least() {
        furnished("27: BEYOND: no such MEMBER").range("least # 0", 0, 0, 1, 0);
        furnished("27: BEYOND: n").range("least 0 #", 0, 0, 60, Check.NONE);
        sentence("27: BEYOND: n, where all is well").with("member 0").range("least 0 #", 0, 0, 60, 0);
        furnished("27: BEYOND: neither").refuses("least 2 61", Check.BEYOND);
        sentence("27: NONE: with none").with("member 0", "handle 0 0 1", "lend 0 0").asks("least 0 0", 0).asks("least 0 1", 1)
            .asks("least 0 29", 29).asks("least 0 30", 30).refuses("least 0 31", Check.NONE).refuses("least 0 60", Check.NONE)
            .with("days 29").asks("least 0 1", 30).refuses("least 0 2", Check.NONE)
            .with("days 1").asks("least 0 0", 0).refuses("least 0 1", Check.NONE);
        sentence("27: of all that it holds").with("member 0", "member 0", "handle 0 0 1", "handle 0 1 2", "handle 0 2 3", "lend 2 1", "days 1")
            .with("lend 0 0", "days 3", "lend 1 0").asks("least 0 4", 7).with("back 0").asks("least 0 4", 4)
            .with("back 1").asks("least 0 60", 0).asks("least 1 4", 8);
        sentence("27: FINES that are held are no more than now").with("member 0", "handle 0 0 1", "lend 0 0", "place 0 1 9998")
            .asks("least 0 9", 9).with("place 0 1 9999").asks("least 0 9", 0).asks("least 0 60", 0);
        sentence("27: LOAN stays").with("member 0", "handle 0 0 1", "lend 0 0", "loan 3").asks("least 0 9", 9).asks("now 5", 3);
    }

    private static void uses() {
        furnished("28: BEYOND: no such HANDLE").range("uses # 5", 0, 0, 5, 1);
        sentence("28: BEYOND: room").with("handle 0 0 15").range("uses 0 #", 0, 99, 15, 99);
        furnished("28: BEYOND: neither").refuses("uses 6 16", Check.BEYOND);
        int[][] rows = {{0, 0, 99}, {0, 1, 98}, {0, 98, 1}, {0, 99, 0}, {1, 0, 50}, {1, 49, 1}, {1, 50, 0}, {2, 0, 50}, {2, 96, 2},
            {2, 97, 1}, {2, 98, 1}, {2, 99, 0}, {3, 0, 33}, {3, 95, 2}, {3, 96, 1}, {3, 99, 0}, {4, 0, 99}, {4, 49, 99}, {4, 50, 0},
            {5, 0, 33}, {5, 95, 2}, {5, 96, 1}, {5, 99, 0}};
        for (int[] row : rows) {
            sentence("28: kind " + row[0] + " of WEAR " + row[1] + " whose two ROOMS are one")
                .with("handle " + row[0] + " 4 4", "set 0 3 " + row[1]).asks("uses 0 4", row[2]).asks("uses 0 5", 0);
        }
        sentence("28: to and fro").with("handle 0 4 9").asks("uses 0 4", 99).asks("uses 0 9", 99).asks("uses 0 8", 0)
            .with("turn 0 2").asks("uses 0 4", 1).asks("uses 0 9", 0)
            .with("turn 0 3", "days 1").asks("uses 0 4", 1).asks("uses 0 9", 0).with("days 1").asks("uses 0 9", 33);
        sentence("28: KNOB from the room opposite").with("handle 4 4 9", "days 1").asks("uses 0 12", 50).with("set 0 3 9").asks("uses 0 12", 41)
            .with("set 0 3 10").asks("uses 0 12", 0).asks("uses 0 4", 40);
        sentence("28: LATCH that is LATE").with("handle 5 4 9", "member 0", "lend 0 0", "loan 0", "days 1")
            .asks("uses 0 4", 33).asks("uses 0 11", 33).asks("uses 0 9", 0).with("back 0").asks("uses 0 4", 1);
    }
}
