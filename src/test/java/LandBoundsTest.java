/** The bounds that parts 1 and 2 of the document name: TRAYS, land and sums by DAYS, RULES by DAYS, PLACES and MINUTES. */
public final class LandBoundsTest {
    private static final Check CHECK = new Check();
    private static final int LAND = 0;
    private static final int PLOTS = 1;
    private static final int HELD = 2;
    private static final int SPLIT = 3;
    private static final int PAID = 6;

    public static void main(String[] args) {
        numbersGoRoundBySort();
        traysAreNew();
        pourAsTheyWere();
        farAtItsEnds();
        holdingsOfOneDay();
        holdingsFromTheFirstToTheLastDay();
        heldSinceTheFirstDay();
        splitByThatDay();
        paidByThatDay();
        knownByThen();
        knownNeverGoesBack();
        homeAtEachPlace();
        CHECK.end();
    }

    private static PollBooks one() {
        PollBooks x = new PollBooks();
        x.person(1, 0, 0);
        return x;
    }

    private static void fact(PollBooks x, int day, int what, long want) {
        CHECK.fine(x, "fact(0, 0, " + day + ", " + what + ")", x.fact(0, 0, day, what), want);
    }

    /** "cut to its sort": 8, 16, 32 and 64 bits. */
    private static void numbersGoRoundBySort() {
        int[] bits = {8, 16, 32, 64};
        for (int sort = 0; sort < 4; sort++) {
            PollBooks x = new PollBooks();
            x.tray(sort, sort, 60);
            long most = Long.MAX_VALUE >> 64 - bits[sort];
            long least = -most - 1;
            long[][] due = {{most, most}, {least, least}, {most + 1, least}, {least - 1, most}, {0, 0}, {-1, -1}, {1, 1},
                {2 * most + 1, -1}, {2 * most + 2, 0}, {2 * least, 0}, {2 * least - 1, -1}};
            for (long[] d : due) {
                for (int place : new int[] {0, 59}) {
                    CHECK.fine(x, "write of " + d[0], x.write(sort, place, d[0]));
                    CHECK.fine(x, "read of sort " + sort, x.read(sort, place), d[1]);
                }
            }
            CHECK.fine(x, "its neighbour", x.read(sort, 1), 0);
            CHECK.fine(x, "its neighbour", x.read(sort, 58), 0);
        }
    }

    /** "A TRAY is a row of so many 0s": also one that was there, of whatever sort and length. */
    private static void traysAreNew() {
        PollBooks x = new PollBooks();
        for (int sort = 0; sort < 4; sort++) {
            for (int many : new int[] {60, 1, 0, 60, 7}) {
                CHECK.fine(x, "tray", x.tray(1, sort, many));
                CHECK.refused(x, "behind the last", x.read(1, many), 3);
                for (int p = 0; p < many; p += Math.max(1, many - 1)) {
                    CHECK.fine(x, "a 0", x.read(1, p), 0);
                    CHECK.fine(x, "write", x.write(1, p, -1));
                    CHECK.fine(x, "read", x.read(1, p), -1);
                }
            }
        }
        CHECK.refused(x, "the one ahead is MISSING still", x.read(0, 0), 2);
        CHECK.refused(x, "and the one behind", x.read(2, 0), 2);
        // rows side by side keep apart
        for (int t = 0; t < 4; t++) {
            x.tray(t, 3, 60);
        }
        for (int t = 0; t < 4; t++) {
            x.write(t, 0, 10 + t);
            x.write(t, 59, 20 + t);
        }
        for (int t = 0; t < 4; t++) {
            CHECK.fine(x, "its first", x.read(t, 0), 10 + t);
            CHECK.fine(x, "its last", x.read(t, 59), 20 + t);
        }
        x.tray(1, 3, 60);
        CHECK.fine(x, "anew", x.read(1, 0), 0);
        CHECK.fine(x, "the one ahead", x.read(0, 59), 20);
        CHECK.fine(x, "the one behind", x.read(2, 0), 12);
    }

    /** "come to another one's (or its own) place on, as they were". */
    private static void pourAsTheyWere() {
        for (int shift = -5; shift <= 5; shift++) {
            for (int many = 0; many <= 7; many++) {
                PollBooks x = new PollBooks();
                x.tray(0, 0, 20);
                for (int p = 0; p < 20; p++) {
                    x.write(0, p, p + 1);
                }
                CHECK.fine(x, "pour", x.pour(0, 6, 0, 6 + shift, many));
                for (int p = 0; p < 20; p++) {
                    boolean moved = p >= 6 + shift && p < 6 + shift + many;
                    CHECK.fine(x, "place " + p + " by " + shift, x.read(0, p), moved ? p - shift + 1 : p + 1);
                }
            }
        }
        PollBooks x = new PollBooks();
        x.tray(0, 3, 60);
        x.tray(3, 3, 60);
        for (int p = 0; p < 60; p++) {
            x.write(0, p, Long.MIN_VALUE + p);
        }
        CHECK.fine(x, "all sixty", x.pour(0, 0, 3, 0, 60));
        for (int p = 0; p < 60; p++) {
            CHECK.fine(x, "place " + p, x.read(3, p), Long.MIN_VALUE + p);
        }
        CHECK.refused(x, "sixty-one", x.pour(0, 0, 3, 0, 61), 3);
        CHECK.fine(x, "the last alone", x.pour(0, 59, 3, 0, 1));
        CHECK.fine(x, "to the first", x.read(3, 0), Long.MIN_VALUE + 59);
        CHECK.refused(x, "from behind the last", x.pour(0, 60, 3, 0, 1), 3);
        CHECK.refused(x, "to behind the last", x.pour(0, 0, 3, 60, 1), 3);
        CHECK.fine(x, "none of it", x.pour(0, 60, 3, 60, 0));
    }

    /** "the fewest letters put in, taken out or put in another one's place": 0 to 8. */
    private static void farAtItsEnds() {
        PollBooks x = new PollBooks();
        String all = "abcdefgh";
        for (int n = 1; n <= 8; n++) {
            for (int m = 1; m <= 8; m++) {
                CHECK.fine(x, "beginnings", x.far(Check.name(all.substring(0, n)), Check.name(all.substring(0, m))),
                    Math.abs(n - m));
                CHECK.fine(x, "no letter in both", x.far(Check.name("y".repeat(n)), Check.name("z".repeat(m))), Math.max(n, m));
            }
        }
        for (int i = 0; i < 8; i++) {
            String without = all.substring(0, i) + all.substring(i + 1);
            String other = all.substring(0, i) + "z" + all.substring(i + 1);
            CHECK.fine(x, "taken out", x.far(Check.name(all), Check.name(without)), 1);
            CHECK.fine(x, "put in", x.far(Check.name(without), Check.name(all)), 1);
            CHECK.fine(x, "in its place", x.far(Check.name(all), Check.name(other)), 1);
            CHECK.fine(x, "two", x.far(Check.name(without), Check.name(other)), 1);
        }
    }

    /** "from a DAY to a DAY (both in it)". */
    private static void holdingsOfOneDay() {
        for (int day : new int[] {0, 1, 500, 9998, 9999}) {
            PollBooks x = one();
            CHECK.fine(x, "hold", x.hold(0, 0, 7, day, day, 0));
            fact(x, day, LAND, 7);
            fact(x, day, PLOTS, 1);
            fact(x, day, HELD, 0);
            if (day > 0) {
                fact(x, day - 1, LAND, 0);
                fact(x, day - 1, PLOTS, 0);
            }
            if (day < 9999) {
                fact(x, day + 1, LAND, 0);
                fact(x, day + 1, PLOTS, 0);
            }
            CHECK.refused(x, "to the DAY ahead", x.hold(0, 0, 7, day, day - 1, 0), 1);
        }
    }

    private static void holdingsFromTheFirstToTheLastDay() {
        PollBooks x = one();
        x.hold(0, 0, 1, 0, 9999, 0);
        x.hold(0, 39, 1000, 100, 200, 0);
        int[][] due = {{0, 1}, {99, 1}, {100, 1001}, {200, 1001}, {201, 1}, {9999, 1}};
        for (int[] d : due) {
            fact(x, d[0], LAND, d[1]);
            fact(x, d[0], PLOTS, d[1] > 1 ? 2 : 1);
        }
    }

    /** "held the most DAYS since the first DAY of one of them (0 without)". */
    private static void heldSinceTheFirstDay() {
        PollBooks x = one();
        fact(x, 9999, HELD, 0);
        x.hold(0, 0, 1, 100, 9999, 0);
        fact(x, 99, HELD, 0);
        fact(x, 100, HELD, 0);
        fact(x, 101, HELD, 1);
        fact(x, 9999, HELD, 9899);
        x.hold(0, 0, 1, 90, 100, 0);
        fact(x, 99, HELD, 9);
        fact(x, 100, HELD, 10);
        fact(x, 101, HELD, 1);
        x.hold(0, 0, 1, 0, 9999, 0);
        fact(x, 0, HELD, 0);
        fact(x, 9999, HELD, 9999);
    }

    /** "the fewest DAYS since a PLOT of one of them was split out (by that DAY; 9,999 if none was)". */
    private static void splitByThatDay() {
        for (int plot : new int[] {0, 1, 31, 32, 38, 39}) {
            PollBooks x = one();
            x.person(2, 0, 0);
            x.hold(0, plot, 1, 10, 9999, 0);
            x.hold(1, (plot + 1) % 40, 1, 0, 9999, 0);
            fact(x, 500, SPLIT, 9999);
            x.split((plot + 1) % 40, 400, 0);
            fact(x, 500, SPLIT, 9999);
            x.split(plot, 300, 0);
            fact(x, 299, SPLIT, 9999);
            fact(x, 300, SPLIT, 0);
            fact(x, 301, SPLIT, 1);
            x.split(plot, 200, 0);
            fact(x, 299, SPLIT, 99);
            fact(x, 500, SPLIT, 200);
            CHECK.fine(x, "of the other one", x.fact(1, 0, 500, SPLIT), 100);
            // it may have been split ahead of being held, and of no PLOT that is not held then
            x.split(plot, 5, 0);
            fact(x, 9, SPLIT, 9999);
            fact(x, 10, SPLIT, 5);
        }
        PollBooks x = one();
        x.hold(0, 0, 1, 0, 9999, 0);
        x.split(0, 0, 0);
        fact(x, 0, SPLIT, 0);
        fact(x, 9998, SPLIT, 9998);
        fact(x, 9999, SPLIT, 9999);
        x.split(0, 9999, 0);
        fact(x, 9998, SPLIT, 9998);
        fact(x, 9999, SPLIT, 0);
    }

    /** "paid all that was PROVED to be paid by that DAY". */
    private static void paidByThatDay() {
        PollBooks x = one();
        x.person(2, 0, 0);
        fact(x, 9999, PAID, 0);
        x.pay(0, 1, 0, true, 0);
        x.pay(0, 1000, 9999, true, 0);
        x.pay(0, 20, 500, true, 0);
        x.pay(0, 300, 500, false, 0);
        x.pay(1, 4, 500, true, 0);
        int[][] due = {{0, 1}, {499, 1}, {500, 21}, {501, 21}, {9998, 21}, {9999, 1021}};
        for (int[] d : due) {
            fact(x, d[0], PAID, d[1]);
        }
        CHECK.fine(x, "of the other one", x.fact(1, 0, 499, PAID), 0);
        CHECK.fine(x, "of the other one", x.fact(1, 0, 500, PAID), 4);
    }

    /** "AS OF a DAY (9,999 at first) all is told by what was KNOWN by then". */
    private static void knownByThen() {
        PollBooks x = one();
        x.hold(0, 3, 5, 0, 9999, 100);
        x.split(3, 40, 200);
        x.pay(0, 6, 0, true, 300);
        x.hold(0, 4, 70, 0, 9999, 9999);
        int[][] due = {{9999, 75, 2, 10, 6}, {9998, 5, 1, 10, 6}, {300, 5, 1, 10, 6}, {299, 5, 1, 10, 0}, {200, 5, 1, 10, 0},
            {199, 5, 1, 9999, 0}, {100, 5, 1, 9999, 0}, {99, 0, 0, 9999, 0}, {0, 0, 0, 9999, 0}, {9999, 75, 2, 10, 6}};
        fact(x, 50, LAND, 75);
        for (int[] d : due) {
            CHECK.fine(x, "asof " + d[0], x.asof(d[0]));
            fact(x, 50, LAND, d[1]);
            fact(x, 50, PLOTS, d[2]);
            fact(x, 50, SPLIT, d[3]);
            fact(x, 50, PAID, d[4]);
        }
        CHECK.fine(x, "asof 150", x.asof(150));
        CHECK.refused(x, "asof -1", x.asof(-1), 1);
        CHECK.refused(x, "asof 10,000", x.asof(10000), 1);
        fact(x, 50, LAND, 5);
        fact(x, 50, PAID, 0);
    }

    /** "these never go back, all three together": the same DAY is none that is gone. */
    private static void knownNeverGoesBack() {
        for (int first = 0; first < 3; first++) {
            for (int then = 0; then < 3; then++) {
                PollBooks x = one();
                CHECK.refused(x, "ahead of all", tell(x, first, -1), 1);
                CHECK.fine(x, "on DAY 0", tell(x, first, 0));
                CHECK.fine(x, "on DAY 0 again", tell(x, then, 0));
                CHECK.fine(x, "on DAY 70", tell(x, first, 70));
                CHECK.refused(x, "the DAY ahead is gone", tell(x, then, 69), 5);
                CHECK.refused(x, "and DAY 0", tell(x, then, 0), 5);
                CHECK.fine(x, "the same DAY", tell(x, then, 70));
                CHECK.refused(x, "one refused moves none", tell(x, first, 10000), 1);
                CHECK.fine(x, "on the last DAY", tell(x, first, 9999));
                CHECK.refused(x, "nothing is left ahead of it", tell(x, then, 9998), 5);
                CHECK.fine(x, "but that DAY", tell(x, then, 9999));
                // AS OF has no part in it
                CHECK.fine(x, "asof 0", x.asof(0));
                CHECK.fine(x, "still", tell(x, then, 9999));
                CHECK.refused(x, "still gone", tell(x, then, 9998), 5);
            }
        }
    }

    private static boolean tell(PollBooks x, int what, int known) {
        return what == 0 ? x.hold(0, 0, 1, 0, 0, known) : what == 1 ? x.split(0, 0, known) : x.pay(0, 1, 0, true, known);
    }

    /** "home 1 if it is HOME there, else 0", and TRADES to their ends. */
    private static void homeAtEachPlace() {
        PollBooks x = new PollBooks();
        for (int home = 0; home < 7; home++) {
            x.person(1, home == 6 ? 19 : home, home);
            for (int place = 0; place < 7; place++) {
                CHECK.fine(x, "home", x.fact(home, place, 0, 5), home == place ? 1 : 0);
            }
            CHECK.fine(x, "trade", x.fact(home, 0, 0, 4), home == 6 ? 19 : home);
        }
    }
}
