/** Promises 36 to 39: GROUNDS, what cannot both be, what is WRITTEN with them, what TURNS the seat. */
public final class GroundsTest {
    private static final Check CHECK = new Check();

    public static void main(String[] args) {
        grounds();
        limit();
        against();
        written();
        turns();
        rivalsAndFirst();
        cannotBothBe();
        CHECK.end();
    }

    /** ENTRIES of book 0 with these SETS, of as many PERSONS. */
    private static PollBooks house(int... sets) {
        PollBooks x = new PollBooks();
        for (int i = 0; i < sets.length; i++) {
            x.person(1 + i, 0, 0);
            x.entry(0, 1 + i, 0, 600, sets[i]);
        }
        return x;
    }

    private static void grounds() {
        PollBooks x = house(1, 2);
        x.offer(0, 4, 0);
        CHECK.refused(x, "entry 2", x.ground(false, 2), 1);
        CHECK.refused(x, "entry -1", x.ground(false, -1), 1);
        CHECK.refused(x, "offer 1", x.ground(true, 1), 1);
        CHECK.refused(x, "offer -1", x.ground(true, -1), 1);
        CHECK.fine(x, "taken off", x.ground(false, 0), 0);
        CHECK.fine(x, "put on", x.ground(true, 0), 1);
        CHECK.refused(x, "taken off again", x.ground(false, 0), 7);
        CHECK.refused(x, "put on again", x.ground(true, 0), 7);
        CHECK.fine(x, "another", x.ground(false, 1), 2);
    }

    private static void limit() {
        PollBooks x = house(1, 1, 1, 1, 1, 1, 1, 1, 1, 1, 1);
        for (int i = 0; i < 10; i++) {
            CHECK.fine(x, "ground", x.ground(false, i), i);
        }
        CHECK.refused(x, "an 11th", x.ground(false, 10), 4);
        CHECK.refused(x, "an 11th that is there", x.ground(false, 0), 4);
        CHECK.refused(x, "an 11th that can't be", x.ground(false, 11), 1);
        CHECK.fine(x, "written with all", x.written(0, 1023), 1);
        CHECK.refused(x, "written with more", x.written(0, 1024), 1);
    }

    private static void against() {
        PollBooks x = house(1, 1, 1);
        x.ground(false, 0);
        x.ground(false, 1);
        x.ground(false, 2);
        CHECK.refused(x, "like ones", x.against(1, 1), 1);
        CHECK.refused(x, "none such", x.against(0, 3), 1);
        CHECK.refused(x, "none such", x.against(3, 0), 1);
        CHECK.refused(x, "none such", x.against(-1, 0), 1);
        CHECK.refused(x, "like ones that are none", x.against(5, 5), 1);
        CHECK.fine(x, "against", x.against(2, 0));
        CHECK.refused(x, "told already", x.against(2, 0), 7);
        CHECK.refused(x, "told already", x.against(0, 2), 7);
        CHECK.fine(x, "others", x.against(0, 1));
    }

    private static void written() {
        PollBooks x = house(1, 3, 6);
        // nobody may vote here, but WRITTEN is what is written
        CHECK.fine(x, "poll", x.poll(0, 0, 0, true), 0);
        x.offer(0, 5, 0);
        x.offer(0, 8, 0);
        x.ground(false, 1);
        x.ground(true, 0);
        x.ground(true, 1);
        x.against(1, 2);
        int[][] due = {{2, 2, 1, 0}, {1, 1, 1, 0}, {3, 2, 2, 0}, {2, 1, 2, 0}, {2, 2, 1, 1}, {1, 1, 1, 1}, {3, 2, 2, 1}, {2, 1, 2, 1}};
        for (int set = 0; set < 8; set++) {
            for (int c = 0; c < 4; c++) {
                CHECK.fine(x, "written(" + c + ", " + set + ")", x.written(c, set), due[set][c]);
            }
        }
        x.entry(1, 2, 0, 600, 9);
        x.entry(2, 2, 0, 600, 9);
        CHECK.fine(x, "by the JOINED SET", x.written(3, 0), 1);
        CHECK.fine(x, "taken off by it too", x.written(3, 1), 0);
        CHECK.refused(x, "set 8", x.written(0, 8), 1);
        CHECK.refused(x, "set -1", x.written(0, -1), 1);
        CHECK.refused(x, "the lowest set", x.written(0, Integer.MIN_VALUE), 1);
        CHECK.refused(x, "candidate 4", x.written(4, 0), 1);
        CHECK.refused(x, "candidate -1", x.written(-1, 0), 1);
    }

    private static void turn(PollBooks x, int candidate, int fewest, int rivals, int first) {
        if (fewest < 0) {
            for (int what = 0; what < 3; what++) {
                CHECK.refused(x, "turns(" + candidate + ", " + what + ")", x.turns(candidate, what), 6);
            }
        } else {
            CHECK.fine(x, "fewest for " + candidate, x.turns(candidate, 0), fewest);
            CHECK.fine(x, "rivals for " + candidate, x.turns(candidate, 1), rivals);
            CHECK.fine(x, "first for " + candidate, x.turns(candidate, 2), first);
        }
    }

    private static void turns() {
        PollBooks x = house(1, 1, 2, 2, 4);
        turn(x, 0, 0, 1, 0);
        turn(x, 1, 0, 1, 0);
        turn(x, 2, -1, 0, 0);
        turn(x, 3, -1, 0, 0);
        x.offer(0, 4, 0);
        x.ground(true, 0);
        // three times 2: the lesser two are seated
        turn(x, 2, -1, 0, 0);
        x.ground(false, 2);
        turn(x, 2, 2, 1, 3);
        turn(x, 0, 0, 1, 0);
        CHECK.refused(x, "candidate 4", x.turns(4, 0), 1);
        CHECK.refused(x, "candidate -1", x.turns(-1, 0), 1);
        CHECK.refused(x, "what 3", x.turns(0, 3), 1);
        CHECK.refused(x, "what -1", x.turns(0, -1), 1);
    }

    private static void rivalsAndFirst() {
        PollBooks x = house(1, 1, 2, 2, 8);
        x.ground(false, 4);
        x.ground(false, 0);
        x.ground(false, 1);
        x.ground(false, 2);
        x.ground(false, 3);
        // 3 needs both votes of 0 or both of 1 off: GROUNDS 1 and 2, or 3 and 4
        turn(x, 3, 2, 2, 6);
        // 2 has none, and of like ones 0 and 1 are the lesser
        turn(x, 2, -1, 0, 0);
        x.offer(0, 12, 0);
        x.ground(true, 0);
        // the OFFER makes three alike: it and any of four votes off, or as before
        turn(x, 3, 2, 6, 6);
    }

    private static void cannotBothBe() {
        PollBooks x = house(1, 1, 2, 2, 8);
        for (int e = 0; e < 4; e++) {
            x.ground(false, e);
        }
        turn(x, 3, 2, 2, 3);
        CHECK.fine(x, "against", x.against(1, 0));
        turn(x, 3, 2, 1, 12);
        CHECK.fine(x, "against", x.against(2, 3));
        turn(x, 3, -1, 0, 0);
        turn(x, 0, 0, 1, 0);
        // what cannot be with GROUND 0 can be with 1, its neighbour, and with 2
        PollBooks y = house(1, 1, 2, 2, 8);
        for (int e = 0; e < 4; e++) {
            y.ground(false, e);
        }
        y.against(0, 3);
        y.against(1, 3);
        y.against(0, 2);
        turn(y, 3, 2, 2, 3);
    }
}
