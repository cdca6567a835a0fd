/** Promises 32 to 35: STANDING of ENTRIES and OFFERS, the POLL, who is SEATED. */
public final class PollTest {
    private static final Check CHECK = new Check();

    public static void main(String[] args) {
        standingIsTheFirstThatHolds();
        joinedSetOfNone();
        offersStand();
        pollAndSeats();
        likeOnesTheLesser();
        byPlaceAndDay();
        refuses();
        CHECK.end();
    }

    private static void standingIsTheFirstThatHolds() {
        PollBooks x = new PollBooks();
        x.person(Check.name("aaaa"), 0, 0);
        x.person(Check.name("bbbb"), 1, 0);
        x.person(Check.name("cccc"), 2, 0);
        x.entry(0, Check.name("zzzz"), -1, 50, 15);
        x.entry(0, Check.name("aaaa"), -1, 50, 15);
        x.entry(0, Check.name("aaaa"), -1, 500, 1);
        x.entry(0, Check.name("bbbb"), -1, 500, 15);
        x.entry(0, Check.name("cccc"), -1, 500, 15);
        Check.text(x, "open: hours 100 to 900;", 10, 1);
        Check.text(x, "some: may trade > 1; no: bar trade = 1;", 20, 1);
        Check.text(x, "sold: void paid > 0;", 30, 1);
        x.pay(2, 1, 30, true, 0);
        Check.text(x, "x strikes sold: names 3;", 40, 1);
        Check.text(x, "y: names 4;", 50, 1);
        int[][] due = {{9, 1, 4, 2, 4, 4}, {10, 1, 3, 2, 4, 4}, {20, 1, 3, 2, 5, 7}, {29, 1, 3, 2, 5, 7}, {30, 1, 3, 2, 5, 6},
            {40, 1, 3, 2, 5, 7}, {50, 1, 3, 2, 5, 0}};
        for (int[] d : due) {
            for (int e = 0; e < 5; e++) {
                CHECK.fine(x, "standing(" + e + ", 0, " + d[0] + ")", x.standing(e, 0, d[0]), d[e + 1]);
            }
        }
        CHECK.fine(x, "elsewhere", x.standing(4, 1, 50), 4);
    }

    private static void joinedSetOfNone() {
        PollBooks x = new PollBooks();
        x.person(1, 0, 0);
        x.entry(0, 1, -1, 600, 1);
        Check.text(x, "a: may day > 0;", 0, 127);
        CHECK.fine(x, "GOOD", x.standing(0, 0, 5), 0);
        x.entry(1, 1, -1, 600, 2);
        CHECK.fine(x, "as book 0 says", x.standing(0, 0, 5), 0);
        x.entry(2, 1, -1, 600, 4);
        CHECK.fine(x, "none is left", x.standing(0, 0, 5), 7);
        CHECK.fine(x, "poll", x.poll(0, 0, 5, true), 0);
    }

    private static void offersStand() {
        PollBooks x = new PollBooks();
        for (int i = 0; i < 4; i++) {
            x.person(1 + i, i, 0);
        }
        x.entry(0, 1, 0, 600, 7);
        x.entry(0, 2, 1, 600, 1);
        int[][] offers = {{0, 1, 600}, {1, 2, 600}, {2, 7, 600}, {2, 2, 50}, {2, 2, 600}, {2, 4, 600}, {3, 2, 600}, {0, 2, 600}};
        for (int[] o : offers) {
            x.offer(o[0], o[1], o[2]);
        }
        Check.text(x, "open: hours 100 to 900; all: may trade < 3; sold: void paid > 0;", 10, 1);
        Check.text(x, "q: bar trade = 2;", 30, 1);
        x.pay(0, 5, 20, true, 0);
        // ENTRY 0 has three names, so it is not GOOD, and its PERSON's first OFFER is
        int[][] due = {{9, 4, 4, 4, 4, 4, 4, 4, 4}, {10, 0, 2, 7, 3, 0, 2, 4, 2}, {20, 6, 2, 7, 3, 0, 2, 4, 6},
            {30, 6, 2, 5, 3, 5, 5, 4, 6}};
        for (int[] d : due) {
            for (int o = 0; o < 8; o++) {
                CHECK.fine(x, "stands(" + o + ", 0, " + d[0] + ")", x.stands(o, 0, d[0]), d[o + 1]);
            }
        }
        CHECK.fine(x, "poll without", x.poll(1, 0, 10, false), 0);
        CHECK.fine(x, "poll with", x.poll(1, 0, 10, true), 1);
        CHECK.fine(x, "poll of 0 with", x.poll(0, 0, 10, true), 2);
        CHECK.fine(x, "poll of 0 without", x.poll(0, 0, 10, false), 1);
        CHECK.fine(x, "poll of 2", x.poll(2, 0, 10, true), 0);
    }

    private static void pollAndSeats() {
        PollBooks x = new PollBooks();
        int[] sets = {4, 4 + 8, 8, 8, 1, 4 + 8};
        for (int i = 0; i < sets.length; i++) {
            x.person(1 + i, i, 0);
            x.entry(0, 1 + i, i, 600, sets[i]);
        }
        x.person(1 + sets.length, 6, 0);
        x.offer(6, 1, 600);
        Check.text(x, "a: may day > 0;", 0, 127);
        int[] due = {1, 0, 3, 4};
        for (int c = 0; c < 4; c++) {
            CHECK.fine(x, "poll " + c, x.poll(c, 0, 5, false), due[c]);
        }
        CHECK.fine(x, "poll 0 with", x.poll(0, 0, 5, true), 2);
        CHECK.fine(x, "the one with most first", x.seated(0, 0, 5, false), 3);
        CHECK.fine(x, "the second", x.seated(1, 0, 5, false), 2);
        // the other clerks' books turn a vote
        x.entry(1, 2, 1, 600, 4);
        x.entry(2, 2, 1, 600, 4);
        CHECK.fine(x, "poll 3 by JOINED SETS", x.poll(3, 0, 5, false), 3);
        CHECK.fine(x, "like ones, the lesser first", x.seated(0, 0, 5, false), 2);
        CHECK.fine(x, "the other one", x.seated(1, 0, 5, false), 3);
    }

    private static void likeOnesTheLesser() {
        PollBooks x = new PollBooks();
        CHECK.fine(x, "nobody voted", x.seated(0, 0, 5, false), 0);
        CHECK.fine(x, "nobody voted", x.seated(1, 0, 5, false), 1);
        Check.text(x, "a: may day > 0;", 0, 127);
        x.person(1, 0, 0);
        x.offer(0, 8, 0);
        CHECK.fine(x, "with OFFERS", x.seated(0, 0, 5, true), 3);
        CHECK.fine(x, "and of like ones", x.seated(1, 0, 5, true), 0);
        CHECK.fine(x, "without", x.seated(0, 0, 5, false), 0);
    }

    private static void byPlaceAndDay() {
        PollBooks x = new PollBooks();
        x.person(1, 0, 3);
        x.entry(0, 1, 0, 600, 2);
        Check.text(x, "a: may home = 1 and land > 0;", 0, 127);
        x.hold(0, 0, 9, 100, 200, 50);
        CHECK.fine(x, "at HOME", x.poll(1, 3, 150, false), 1);
        CHECK.fine(x, "elsewhere", x.poll(1, 2, 150, false), 0);
        CHECK.fine(x, "too early", x.poll(1, 3, 99, false), 0);
        x.asof(49);
        CHECK.fine(x, "not yet KNOWN", x.poll(1, 3, 150, false), 0);
        CHECK.fine(x, "so it has no right", x.standing(0, 3, 150), 4);
        x.asof(50);
        CHECK.fine(x, "KNOWN", x.standing(0, 3, 150), 0);
    }

    private static void refuses() {
        PollBooks x = new PollBooks();
        x.person(1, 0, 0);
        x.entry(0, 1, 0, 600, 2);
        x.offer(0, 1, 0);
        int[][] bad = {{1, 0, 0}, {-1, 0, 0}, {0, 7, 0}, {0, -1, 0}, {0, 0, -1}, {0, 0, 10000}};
        for (int[] b : bad) {
            CHECK.refused(x, "standing", x.standing(b[0], b[1], b[2]), 1);
            CHECK.refused(x, "stands", x.stands(b[0], b[1], b[2]), 1);
            int candidate = b[0] == 1 ? 4 : b[0];
            CHECK.refused(x, "poll", x.poll(candidate, b[1], b[2], true), 1);
            int k = b[0] == 1 ? 2 : b[0];
            CHECK.refused(x, "seated", x.seated(k, b[1], b[2], false), 1);
        }
    }
}
