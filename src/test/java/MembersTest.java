/** Promises 40 to 43: MEMBERS, KIN, the draw and the BENCH. */
public final class MembersTest {
    private static final Check CHECK = new Check();

    public static void main(String[] args) {
        members();
        kin();
        drawsByLots();
        strikesByTurns();
        likeOnesTheLesser();
        drawRefuses();
        benchStaysUntilTheNext();
        CHECK.end();
    }

    private static void members() {
        PollBooks x = new PollBooks();
        CHECK.refused(x, "lean -10", x.member(-10, 0), 1);
        CHECK.refused(x, "lean 10", x.member(10, 0), 1);
        CHECK.refused(x, "kin -1", x.member(0, -1), 1);
        CHECK.refused(x, "kin 21", x.member(0, 21), 1);
        for (int i = 0; i < 30; i++) {
            CHECK.fine(x, "member", x.member(i % 2 == 0 ? -9 : 9, 20), i);
        }
        CHECK.refused(x, "a 31st", x.member(0, 0), 4);
        CHECK.refused(x, "a 31st that can't be", x.member(10, 0), 1);
        CHECK.fine(x, "all of them", x.draw(30, 30, 5), 0);
        for (int i = 0; i < 30; i++) {
            CHECK.fine(x, "bench", x.bench(i), i);
        }
        CHECK.refused(x, "bench(30)", x.bench(30), 6);
    }

    private static void kin() {
        PollBooks x = new PollBooks();
        x.member(1, 0);
        x.member(2, 7);
        x.member(3, 8);
        CHECK.refused(x, "candidate 4", x.kin(4, 1), 1);
        CHECK.refused(x, "candidate -1", x.kin(-1, 1), 1);
        CHECK.refused(x, "kin -1", x.kin(0, -1), 1);
        CHECK.refused(x, "kin 21", x.kin(0, 21), 1);
        CHECK.fine(x, "none of KIN at first", x.draw(3, 3, 0), 6);
        CHECK.fine(x, "kin", x.kin(0, 7));
        CHECK.refused(x, "one is KIN", x.draw(3, 3, 0), 6);
        CHECK.fine(x, "the others", x.draw(2, 2, 0), 4);
        CHECK.fine(x, "kin", x.kin(3, 8));
        CHECK.fine(x, "KIN 0 is none", x.draw(1, 1, 0), 1);
        CHECK.fine(x, "kin anew", x.kin(0, 20));
        CHECK.fine(x, "no KIN any more", x.draw(2, 2, 0), 3);
        CHECK.fine(x, "kin 0", x.kin(3, 0));
        CHECK.fine(x, "all again", x.draw(3, 3, 0), 6);
    }

    private static void drawsByLots() {
        // lots worked out apart from the program: 16838, 5758, 10113, 17515 follow seed 1
        PollBooks x = new PollBooks();
        for (int i = 0; i < 10; i++) {
            x.member(i - 5, 0);
        }
        // 16838 % 10 = 8: 8; 5758 % 9 = 7: 7; 10113 % 8 = 1: 1; 17515 % 7 = 1: 2
        int[][] due = {{8}, {7, 8}, {1, 7, 8}, {1, 2, 7, 8}};
        for (int[] d : due) {
            int lean = 0;
            for (int m : d) {
                lean += m - 5;
            }
            CHECK.fine(x, "draw " + d.length, x.draw(d.length, d.length, 1), lean);
            for (int k = 0; k < d.length; k++) {
                CHECK.fine(x, "bench(" + k + ")", x.bench(k), d[k]);
            }
        }
        // (1,103,515,245 * 2,147,483,647 + 12,345) in 31 bits, by 65,536: 15929, % 10 = 9
        CHECK.fine(x, "the greatest SEED", x.draw(1, 1, Integer.MAX_VALUE), 4);
        CHECK.fine(x, "bench(0)", x.bench(0), 9);
        // of seed 0 the first lot is 0
        CHECK.fine(x, "the least SEED", x.draw(1, 1, 0), -5);
        CHECK.fine(x, "bench(0)", x.bench(0), 0);
    }

    private static void strikesByTurns() {
        PollBooks x = new PollBooks();
        int[] leans = {4, -2, 7, 0, -5, 9};
        for (int lean : leans) {
            x.member(lean, 0);
        }
        // off go -5 (4), 9 (5), -2 (1), 7 (2), 0 (3), 4 (0)
        int[][] due = {{0, 1, 2, 3, 4, 5}, {0, 1, 2, 3, 5}, {0, 1, 2, 3}, {0, 2, 3}, {0, 3}, {0}, {}};
        for (int[] d : due) {
            int lean = 0;
            for (int m : d) {
                lean += leans[m];
            }
            CHECK.fine(x, "draw to " + d.length, x.draw(6, d.length, 99), lean);
            for (int k = 0; k < d.length; k++) {
                CHECK.fine(x, "bench(" + k + ") of " + d.length, x.bench(k), d[k]);
            }
            CHECK.refused(x, "none behind " + d.length, x.bench(d.length), 6);
        }
    }

    private static void likeOnesTheLesser() {
        PollBooks x = new PollBooks();
        for (int i = 0; i < 4; i++) {
            x.member(3, 0);
        }
        CHECK.fine(x, "draw", x.draw(4, 2, 7), 6);
        CHECK.fine(x, "the lesser are off", x.bench(0), 2);
        CHECK.fine(x, "both times", x.bench(1), 3);
    }

    private static void drawRefuses() {
        PollBooks x = new PollBooks();
        x.member(-1, 0);
        CHECK.refused(x, "n 0", x.draw(0, 0, 1), 1);
        CHECK.refused(x, "n 31", x.draw(31, 1, 1), 1);
        CHECK.refused(x, "m -1", x.draw(1, -1, 1), 1);
        CHECK.refused(x, "m above n", x.draw(1, 2, 1), 1);
        CHECK.refused(x, "seed -1", x.draw(1, 1, -1), 1);
        CHECK.refused(x, "there are fewer", x.draw(2, 1, 1), 6);
        CHECK.refused(x, "still no BENCH", x.bench(0), 6);
        CHECK.fine(x, "-1 that is no NONE", x.draw(1, 1, 1), -1);
    }

    private static void benchStaysUntilTheNext() {
        PollBooks x = new PollBooks();
        CHECK.refused(x, "bench(-1)", x.bench(-1), 1);
        CHECK.refused(x, "bench(0)", x.bench(0), 6);
        CHECK.refused(x, "the greatest", x.bench(Integer.MAX_VALUE), 6);
        x.member(5, 0);
        x.member(6, 1);
        x.draw(2, 2, 3);
        x.draw(3, 1, 3);
        x.draw(1, 2, 3);
        x.kin(0, 1);
        x.member(7, 0);
        CHECK.fine(x, "bench(0)", x.bench(0), 0);
        CHECK.fine(x, "bench(1)", x.bench(1), 1);
        CHECK.refused(x, "bench(2)", x.bench(2), 6);
        CHECK.fine(x, "draw to none", x.draw(1, 0, 3), 0);
        CHECK.refused(x, "an empty BENCH", x.bench(0), 6);
    }
}
