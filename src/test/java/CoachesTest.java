/** Promises 44 to 46: MILES and COACHES. */
public final class CoachesTest {
    private static final Check CHECK = new Check();

    public static void main(String[] args) {
        miles();
        refusesInOrder();
        fullCoachesFirst();
        restsShare();
        fewestMilesThenFewestCoaches();
        roundsAreTheShortest();
        onlyThroughTheirPlaces();
        coachManyIsOfTheLatest();
        CHECK.end();
    }

    private static PollBooks waiting(int... many) {
        PollBooks x = new PollBooks();
        x.tray(0, 0, 7);
        for (int p = 0; p < many.length; p++) {
            x.write(0, p, many[p]);
        }
        return x;
    }

    private static void go(PollBooks x, int place, int room, int miles, int many) {
        CHECK.fine(x, "coaches(" + place + ", 0, " + room + ")", x.coaches(place, 0, room), miles);
        CHECK.fine(x, "coachMany", x.coachMany(), many);
    }

    private static void miles() {
        PollBooks x = waiting(0, 1);
        CHECK.refused(x, "a 7", x.miles(7, 0, 1), 1);
        CHECK.refused(x, "a -1", x.miles(-1, 0, 1), 1);
        CHECK.refused(x, "b 7", x.miles(0, 7, 1), 1);
        CHECK.refused(x, "b -1", x.miles(0, -1, 1), 1);
        CHECK.refused(x, "like ones", x.miles(3, 3, 1), 1);
        CHECK.refused(x, "no mile", x.miles(0, 1, 0), 1);
        CHECK.refused(x, "1,001 miles", x.miles(0, 1, 1001), 1);
        go(x, 0, 5, 20, 1);
        CHECK.fine(x, "1,000 miles", x.miles(1, 0, 1000));
        go(x, 0, 5, 2000, 1);
        CHECK.fine(x, "1 mile", x.miles(0, 1, 1));
        go(x, 0, 5, 2, 1);
        go(x, 6, 5, 20, 1);
        PollBooks first = waiting(7, 0, 1);
        first.miles(0, 2, 3);
        go(first, 6, 5, 2 * 10 + 10 + 3 + 10, 2);
    }

    private static void refusesInOrder() {
        PollBooks x = new PollBooks();
        CHECK.refused(x, "place 7", x.coaches(7, 0, 1), 1);
        CHECK.refused(x, "place -1", x.coaches(-1, 0, 1), 1);
        CHECK.refused(x, "tray 4", x.coaches(0, 4, 1), 1);
        CHECK.refused(x, "tray -1", x.coaches(0, -1, 1), 1);
        CHECK.refused(x, "room 0", x.coaches(0, 0, 0), 1);
        CHECK.refused(x, "room 21", x.coaches(0, 0, 21), 1);
        CHECK.refused(x, "MISSING", x.coaches(0, 0, 1), 2);
        x.tray(0, 3, 6);
        x.write(0, 0, -1);
        CHECK.refused(x, "too few", x.coaches(0, 0, 1), 3);
        x.tray(0, 3, 8);
        x.write(0, 7, 1000);
        CHECK.fine(x, "the eighth does not count", x.coaches(0, 0, 1), 0);
        x.write(0, 6, 101);
        CHECK.refused(x, "101", x.coaches(0, 0, 1), 1);
        x.write(0, 6, -1);
        CHECK.refused(x, "-1", x.coaches(0, 0, 1), 1);
        x.write(0, 6, 1L << 32);
        CHECK.refused(x, "much", x.coaches(0, 0, 1), 1);
        x.write(0, 6, 100);
        CHECK.fine(x, "100", x.coaches(0, 0, 1), 2000);
        CHECK.fine(x, "its own does not count", x.coaches(6, 0, 1), 0);
        x.write(0, 0, 101);
        CHECK.refused(x, "101 in the first", x.coaches(6, 0, 1), 1);
    }

    private static void fullCoachesFirst() {
        PollBooks x = waiting(0, 100, 0, 20, 0, 0, 0);
        x.miles(0, 3, 7);
        go(x, 0, 20, 5 * 20 + 14, 6);
        go(x, 0, 19, 5 * 20 + 14 + 10 + 10 + 7, 7);
        go(x, 0, 1, 2000 + 20 * 14, 120);
        go(x, 1, 20, 20, 1);
    }

    private static void restsShare() {
        // rests by 10: 3, 4, 5: the last with either, not with both
        PollBooks x = waiting(99, 23, 4, 35);
        go(x, 0, 10, 5 * 20 + 30 + 20, 7);
        // by 12: 11, 4, 11: each alone
        go(x, 0, 12, 3 * 20 + 3 * 20, 6);
        x.miles(1, 3, 1);
        go(x, 0, 10, 5 * 20 + 21 + 20, 7);
        x.miles(1, 3, 100);
        x.miles(2, 3, 5);
        go(x, 0, 10, 5 * 20 + 25 + 20, 7);
    }

    private static void fewestMilesThenFewestCoaches() {
        PollBooks x = waiting(0, 1, 1);
        x.miles(1, 2, 21);
        go(x, 0, 2, 40, 2);
        x.miles(1, 2, 20);
        go(x, 0, 2, 40, 1);
        x.miles(1, 2, 19);
        go(x, 0, 2, 39, 1);
        go(x, 0, 1, 40, 2);
        PollBooks none = waiting(5);
        go(none, 0, 1, 0, 0);
    }

    private static void roundsAreTheShortest() {
        PollBooks x = waiting(0, 1, 1, 1, 1, 1, 1);
        for (int a = 0; a < 7; a++) {
            for (int b = a + 1; b < 7; b++) {
                x.miles(a, b, 500);
            }
        }
        int[] round = {0, 3, 1, 6, 2, 5, 4, 0};
        for (int i = 0; i < 7; i++) {
            x.miles(round[i], round[i + 1], i + 1);
        }
        go(x, 0, 6, 28, 1);
        go(x, 0, 20, 28, 1);
        // five at most: 0 1 6 2 5 4 0, and 3, which is nearest, alone
        CHECK.fine(x, "coaches(0, 0, 5)", x.coaches(0, 0, 5), 500 + 3 + 4 + 5 + 6 + 7 + 2);
    }

    private static void onlyThroughTheirPlaces() {
        PollBooks x = waiting(0, 5, 7);
        x.miles(0, 2, 100);
        x.miles(1, 2, 1);
        // place 3 is on the shorter way to 2, but nobody waits there
        go(x, 0, 12, 111, 1);
        go(x, 0, 11, 220, 2);
    }

    private static void coachManyIsOfTheLatest() {
        PollBooks x = waiting(0, 3);
        CHECK.refused(x, "none yet", x.coachMany(), 6);
        x.coaches(0, 0, 99);
        CHECK.refused(x, "none with STATUS 0 yet", x.coachMany(), 6);
        go(x, 0, 1, 60, 3);
        x.coaches(0, 1, 1);
        x.coaches(0, 0, 0);
        CHECK.fine(x, "as it was", x.coachMany(), 3);
        go(x, 0, 2, 40, 2);
    }
}
