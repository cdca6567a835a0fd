import java.math.BigInteger;
import java.util.ArrayList;
import java.util.List;

/** The bounds that part 5 of the document names: KIN, LOTS, STRUCK, BENCH, MILES, COACHES. */
public final class BenchBoundsTest {
    private static final Check CHECK = new Check();

    public static void main(String[] args) {
        kinOfEachCandidate();
        lotsOfManySeeds();
        struckUntilSoManyAreLeft();
        likeLeans();
        leansToTheirEnds();
        benchOfTheLatest();
        milesAtFirst();
        milesBothWays();
        coachesForOnePlace();
        whatIsLeftGoesTogether();
        noneIsLeft();
        asManyAsCanBe();
        itsOwnDoesNotCount();
        numbersOfTheTray();
        coachManyOfTheLatest();
        CHECK.end();
    }

    /** "those whose KIN is none of CANDIDATES (kin told of each; 0 at first)"; "0 none, or 1 to 20". */
    private static void kinOfEachCandidate() {
        for (int candidate = 0; candidate < 4; candidate++) {
            for (int kin : new int[] {1, 2, 19, 20}) {
                PollBooks x = new PollBooks();
                x.member(1, 0);
                x.member(2, kin);
                x.member(4, kin == 20 ? 1 : kin + 1);
                CHECK.fine(x, "at first none is KIN", x.draw(3, 3, 9), 7);
                CHECK.fine(x, "kin", x.kin(candidate, kin));
                CHECK.refused(x, "one is KIN", x.draw(3, 3, 9), 6);
                CHECK.fine(x, "two are not", x.draw(2, 2, 9), 5);
                CHECK.fine(x, "told of another, too", x.kin((candidate + 1) % 4, kin));
                CHECK.fine(x, "kin 0", x.kin(candidate, 0));
                CHECK.refused(x, "KIN of the other still", x.draw(3, 3, 9), 6);
                CHECK.fine(x, "kin 0 of the other", x.kin((candidate + 1) % 4, 0));
                CHECK.fine(x, "and those of KIN 0 are no KIN", x.draw(3, 3, 9), 7);
            }
        }
        PollBooks all = new PollBooks();
        for (int c = 0; c < 4; c++) {
            all.member(1 << c, 1 + c);
            all.kin(c, 1 + c);
        }
        CHECK.refused(all, "all are KIN", all.draw(1, 1, 9), 6);
        all.kin(2, 20);
        CHECK.fine(all, "but one", all.draw(1, 1, 9), 4);
        CHECK.fine(all, "it is MEMBER 2", all.bench(0), 2);
    }

    /** The lots as the document says them, in numbers without bounds. */
    private static List<Integer> drawn(List<Integer> from, int n, int seed) {
        List<Integer> left = new ArrayList<>(from);
        List<Integer> drawn = new ArrayList<>();
        BigInteger s = BigInteger.valueOf(seed);
        for (int i = 0; i < n; i++) {
            s = s.multiply(BigInteger.valueOf(1103515245)).add(BigInteger.valueOf(12345)).mod(BigInteger.ONE.shiftLeft(31));
            int lot = s.divide(BigInteger.valueOf(65536)).intValue();
            drawn.add(left.remove(lot % left.size()));
        }
        drawn.sort(null);
        return drawn;
    }

    /** "of that the lower 31 bits, and LOT is that by 65,536, rounded down"; SEEDS from 0 to 2,147,483,647. */
    private static void lotsOfManySeeds() {
        int[] seeds = {0, 1, 2, 65535, 65536, 65537, 12345, 1103515245, 1 << 30, Integer.MAX_VALUE, Integer.MAX_VALUE - 1, 77,
            987654321, 2000000000};
        for (int members : new int[] {1, 2, 7, 29, 30}) {
            List<Integer> all = new ArrayList<>();
            for (int i = 0; i < members; i++) {
                all.add(i);
            }
            for (int seed : seeds) {
                PollBooks x = new PollBooks();
                for (int i = 0; i < members; i++) {
                    x.member(0, 0);
                }
                for (int n = 1; n <= members; n += Math.max(1, members / 6)) {
                    CHECK.fine(x, "draw", x.draw(n, n, seed), 0);
                    List<Integer> due = drawn(all, n, seed);
                    for (int k = 0; k < n; k++) {
                        CHECK.due("bench(" + k + ") of " + n + " of " + members + " by " + seed, x.bench(k), due.get(k));
                    }
                }
            }
        }
        lotsJustAside();
    }

    /** The first LOT of 30 for SEEDS around those where it goes up by one. */
    private static void lotsJustAside() {
        BigInteger inverse = BigInteger.valueOf(1103515245).modInverse(BigInteger.ONE.shiftLeft(31));
        for (int lot : new int[] {0, 1, 30, 16383, 16384, 32766, 32767}) {
            for (int aside = -1; aside <= 1; aside++) {
                BigInteger next = BigInteger.valueOf(lot * 65536L + aside).mod(BigInteger.ONE.shiftLeft(31));
                int seed = next.subtract(BigInteger.valueOf(12345)).multiply(inverse).mod(BigInteger.ONE.shiftLeft(31)).intValue();
                PollBooks x = new PollBooks();
                for (int i = 0; i < 30; i++) {
                    x.member(0, 0);
                }
                x.draw(1, 1, seed);
                int due = aside < 0 ? (lot + 32767) % 32768 : lot;
                CHECK.fine(x, "lot " + lot + " by " + aside, x.bench(0), due % 30);
            }
        }
    }

    /** "STRUCK then, until m are left: by turns the one with the least LEAN, the one with the greatest". */
    private static void struckUntilSoManyAreLeft() {
        int[] leans = {5, -7, 9, 0, -9, 3, -1, 8};
        // off go 4, 2, 1, 7, 6, 0, 3, 5
        int[] off = {4, 2, 1, 7, 6, 0, 3, 5};
        PollBooks x = new PollBooks();
        for (int lean : leans) {
            x.member(lean, 0);
        }
        for (int m = 8; m >= 0; m--) {
            List<Integer> left = new ArrayList<>();
            for (int i = 8 - m; i < 8; i++) {
                left.add(off[i]);
            }
            left.sort(null);
            int sum = left.stream().mapToInt(i -> leans[i]).sum();
            CHECK.fine(x, "draw to " + m, x.draw(8, m, 5), sum);
            for (int k = 0; k < m; k++) {
                CHECK.fine(x, "bench(" + k + ") of " + m, x.bench(k), left.get(k));
            }
            CHECK.refused(x, "bench(" + m + ")", x.bench(m), 6);
        }
        CHECK.refused(x, "m above n", x.draw(8, 9, 5), 1);
        CHECK.refused(x, "the BENCH of none stays", x.bench(0), 6);
    }

    /** "(of like ones the lesser MEMBER)", of the least and of the greatest. */
    private static void likeLeans() {
        int[][] leans = {{0, 0, 0, 0}, {2, 1, 1, 2}, {1, 2, 2, 1}, {-1, -1, 3, 3}, {3, 3, -1, -1}};
        int[][] left = {{2, 3}, {2, 3}, {2, 3}, {1, 3}, {1, 3}};
        for (int i = 0; i < leans.length; i++) {
            PollBooks x = new PollBooks();
            for (int lean : leans[i]) {
                x.member(lean, 0);
            }
            CHECK.fine(x, "draw", x.draw(4, 2, 1), leans[i][left[i][0]] + leans[i][left[i][1]]);
            CHECK.fine(x, "bench(0) of " + i, x.bench(0), left[i][0]);
            CHECK.fine(x, "bench(1) of " + i, x.bench(1), left[i][1]);
        }
    }

    /** LEANS -9 to 9 of thirty together; "STATUS tells NONE from -1". */
    private static void leansToTheirEnds() {
        for (int lean : new int[] {-9, 9}) {
            PollBooks x = new PollBooks();
            for (int i = 0; i < 30; i++) {
                x.member(lean, 0);
            }
            CHECK.fine(x, "all thirty", x.draw(30, 30, 1), 30 * lean);
            CHECK.fine(x, "one", x.draw(30, 1, 1), lean);
            CHECK.fine(x, "none", x.draw(30, 0, 1), 0);
        }
        PollBooks x = new PollBooks();
        x.member(-1, 0);
        CHECK.fine(x, "-1 that is no NONE", x.draw(1, 1, 1), -1);
        CHECK.refused(x, "NONE", x.draw(2, 1, 1), 6);
        CHECK.refused(x, "NONE", x.draw(1, 2, 1), 1);
        CHECK.fine(x, "-1 again", x.draw(1, 1, 1), -1);
    }

    /** "The k-th of the BENCH drawn latest (1: below 0; 6)". */
    private static void benchOfTheLatest() {
        PollBooks x = new PollBooks();
        CHECK.refused(x, "ahead of any", x.bench(0), 6);
        CHECK.refused(x, "below 0", x.bench(-1), 1);
        for (int i = 0; i < 6; i++) {
            x.member(i, 0);
        }
        CHECK.refused(x, "MEMBERS are no BENCH", x.bench(0), 6);
        CHECK.fine(x, "draw", x.draw(6, 6, 3), 15);
        CHECK.fine(x, "the first", x.bench(0), 0);
        CHECK.fine(x, "the last", x.bench(5), 5);
        CHECK.refused(x, "behind the last", x.bench(6), 6);
        CHECK.fine(x, "draw fewer", x.draw(6, 1, 3), 3);
        CHECK.fine(x, "the one", x.bench(0), 3);
        CHECK.refused(x, "none of the earlier", x.bench(1), 6);
        // refused ones leave it, and so do MEMBERS and KIN told later
        x.draw(7, 1, 3);
        x.draw(0, 0, 3);
        x.draw(6, 1, -3);
        x.kin(0, 5);
        x.member(9, 5);
        CHECK.fine(x, "as it was", x.bench(0), 3);
        CHECK.refused(x, "and no more", x.bench(1), 6);
    }

    // ---- COACHES

    private static PollBooks waiting(int sort, long... many) {
        PollBooks x = new PollBooks();
        x.tray(0, sort, 7);
        for (int p = 0; p < many.length; p++) {
            x.write(0, p, many[p]);
        }
        return x;
    }

    private static void go(PollBooks x, int place, int room, int miles, int many) {
        CHECK.fine(x, "coaches(" + place + ", 0, " + room + ")", x.coaches(place, 0, room), miles);
        CHECK.fine(x, "coachMany()", x.coachMany(), many);
    }

    /** "10 at first". */
    private static void milesAtFirst() {
        for (int a = 0; a < 7; a++) {
            for (int b = 0; b < 7; b++) {
                long[] many = new long[7];
                many[b] = 1;
                go(waiting(0, many), a, 1, a == b ? 0 : 20, a == b ? 0 : 1);
            }
        }
    }

    /** "MILES between PLACES (1 to 1,000; both ways alike)". */
    private static void milesBothWays() {
        for (int a = 0; a < 7; a++) {
            for (int b = 0; b < 7; b++) {
                for (int much : new int[] {1, 1000}) {
                    if (a != b) {
                        PollBooks x = new PollBooks();
                        CHECK.fine(x, "miles", x.miles(a, b, much));
                        CHECK.refused(x, "no mile", x.miles(a, b, 0), 1);
                        CHECK.refused(x, "1,001 miles", x.miles(b, a, 1001), 1);
                        for (int p = 0; p < 7; p++) {
                            x.tray(0, 0, 7);
                            x.write(0, p, 1);
                            go(x, a, 20, p == a ? 0 : p == b ? 2 * much : 20, p == a ? 0 : 1);
                            go(x, b, 20, p == b ? 0 : p == a ? 2 * much : 20, p == b ? 0 : 1);
                        }
                    }
                }
            }
        }
    }

    /** "A PLACE with more than ROOM: first full coaches for it alone, as many as there can be; then what is left". */
    private static void coachesForOnePlace() {
        for (int room = 1; room <= 20; room++) {
            PollBooks x = waiting(2);
            for (int many = 0; many <= 100; many++) {
                x.write(0, 6, many);
                int due = (many + room - 1) / room;
                CHECK.due("coaches for " + many + " by " + room, x.coaches(0, 0, room), 20 * due);
                CHECK.due("coachMany for " + many + " by " + room, x.coachMany(), due);
            }
        }
    }

    /** "what is left (if any) goes in one coach, with all that is left of others, perhaps", "with at most ROOM". */
    private static void whatIsLeftGoesTogether() {
        for (int room = 2; room <= 20; room++) {
            for (int left = 1; left < room; left++) {
                // just ROOM together, and one more than that
                PollBooks x = waiting(1, 0, left, room - left);
                go(x, 0, room, 30, 1);
                x.write(0, 2, room - left + 1);
                go(x, 0, room, 40, 2);
                // the same behind full coaches
                x.write(0, 1, room + left);
                x.write(0, 2, room - left);
                go(x, 0, room, 20 + 30, 2);
                if (room + room - left + 1 <= 100) {
                    x.write(0, 2, room + room - left);
                    go(x, 0, room, 40 + 30, 3);
                }
            }
        }
        // what is left of one PLACE is not parted: 3, 3 and 3 by 5 are three coaches
        PollBooks x = waiting(0, 0, 3, 3, 3);
        go(x, 0, 5, 60, 3);
        go(x, 0, 6, 50, 2);
        go(x, 0, 8, 50, 2);
        go(x, 0, 9, 40, 1);
        // nor is a PLACE of no more than ROOM
        PollBooks y = waiting(0, 0, 5, 5, 5);
        go(y, 0, 9, 60, 3);
    }

    /** "(if any)": a PLACE of just so many coaches has nobody left, and no other coach goes through it. */
    private static void noneIsLeft() {
        for (int room = 1; room <= 20; room++) {
            PollBooks x = waiting(0, 0, 2 * room, room, 1);
            x.miles(0, 3, 100);
            x.miles(1, 3, 1);
            x.miles(2, 3, 1);
            go(x, 0, room, 40 + 20 + 200, 4);
        }
    }

    private static void asManyAsCanBe() {
        PollBooks x = waiting(0, 100, 100, 100, 100, 100, 100, 100);
        for (int a = 0; a < 7; a++) {
            for (int b = 0; b < a; b++) {
                x.miles(a, b, 1000);
            }
        }
        for (int place = 0; place < 7; place++) {
            go(x, place, 1, 1200000, 600);
        }
        go(x, 3, 20, 6 * 5 * 2000, 30);
        // by 19 there are 5 left of each PLACE: three of them in one coach
        go(x, 3, 19, 6 * 5 * 2000 + 2 * 4000, 32);
        PollBooks none = waiting(0);
        for (int place = 0; place < 7; place++) {
            go(none, place, 20, 0, 0);
        }
    }

    /** "its own does not count". */
    private static void itsOwnDoesNotCount() {
        for (int place = 0; place < 7; place++) {
            long[] many = new long[7];
            many[place] = 100;
            many[(place + 1) % 7] = 1;
            go(waiting(0, many), place, 1, 20, 1);
        }
    }

    /** "how many of each PLACE, 0 to 100: the first seven numbers of a TRAY". */
    private static void numbersOfTheTray() {
        for (int sort = 0; sort < 4; sort++) {
            for (int p = 0; p < 7; p++) {
                PollBooks x = waiting(sort);
                int home = (p + 3) % 7;
                for (long v : new long[] {0, 100}) {
                    x.write(0, p, v);
                    CHECK.fine(x, v + " at " + p, x.coaches(home, 0, 20), v == 0 ? 0 : 100);
                }
                for (long v : new long[] {-1, 101, -100, 127}) {
                    x.write(0, p, v);
                    CHECK.refused(x, v + " at " + p, x.coaches(home, 0, 20), 1);
                }
            }
        }
        // the lower bits of a long one are no number of their own
        for (long v : new long[] {1L << 32, Long.MIN_VALUE, Long.MAX_VALUE, 100L + (1L << 32), 5 - (1L << 32)}) {
            PollBooks x = waiting(3, 0, v);
            CHECK.refused(x, "much", x.coaches(0, 0, 20), 1);
        }
        // seven are enough, and what stands behind them is not looked at
        PollBooks x = new PollBooks();
        for (int many = 0; many <= 60; many++) {
            x.tray(0, 0, many);
            if (many < 7) {
                CHECK.refused(x, "too few", x.coaches(0, 0, 1), 3);
            } else {
                x.write(0, many - 1, many > 7 ? -1 : 1);
                CHECK.fine(x, "enough", x.coaches(0, 0, 1), many > 7 ? 0 : 20);
            }
        }
    }

    /** "How many coaches go by the latest coaches() with STATUS 0 (6: there was none)". */
    private static void coachManyOfTheLatest() {
        PollBooks x = waiting(0, 0, 3);
        CHECK.refused(x, "ahead of any", x.coachMany(), 6);
        CHECK.refused(x, "room 0", x.coaches(0, 0, 0), 1);
        CHECK.refused(x, "none with STATUS 0", x.coachMany(), 6);
        go(x, 1, 1, 0, 0);
        CHECK.fine(x, "0 is some", x.coachMany(), 0);
        go(x, 0, 1, 60, 3);
        CHECK.refused(x, "MISSING", x.coaches(0, 1, 1), 2);
        CHECK.fine(x, "stays", x.coachMany(), 3);
        x.tray(1, 0, 6);
        CHECK.refused(x, "too few", x.coaches(0, 1, 1), 3);
        CHECK.fine(x, "stays", x.coachMany(), 3);
        x.write(0, 1, 101);
        CHECK.refused(x, "a number", x.coaches(0, 0, 1), 1);
        CHECK.fine(x, "stays", x.coachMany(), 3);
    }
}
