/** Promises 7 to 13: FAR, PERSONS, land and sums as known on a DAY. */
public final class PersonsTest {
    private static final Check CHECK = new Check();

    public static void main(String[] args) {
        far();
        namesThatCannotBe();
        persons();
        holdRefuses();
        splitRefuses();
        payRefuses();
        knownDaysNeverGoBack();
        limits();
        landFacts();
        splitFacts();
        paidFacts();
        asOf();
        CHECK.end();
    }

    private static void far() {
        PollBooks x = new PollBooks();
        String[][] pairs = {{"smith", "smyth", "1"}, {"kitten", "sitting", "3"}, {"a", "b", "1"}, {"abcdefgh", "ijklmnop", "8"},
            {"a", "abcdefgh", "7"}, {"abcdefgh", "h", "7"}, {"ab", "ba", "2"}, {"abc", "bcd", "2"}, {"same", "same", "0"},
            {"zzzzzzzz", "zzzzzzzz", "0"}, {"abcdefgh", "bcdefgha", "2"}};
        for (String[] p : pairs) {
            CHECK.fine(x, p[0] + " " + p[1], x.far(Check.name(p[0]), Check.name(p[1])), Integer.parseInt(p[2]));
            CHECK.fine(x, p[1] + " " + p[0], x.far(Check.name(p[1]), Check.name(p[0])), Integer.parseInt(p[2]));
        }
    }

    private static void namesThatCannotBe() {
        PollBooks x = new PollBooks();
        // no letter, 27 and 31 are none, one missing between and behind, nine letters
        long[] names = {0, -1, 27, 31, 1L << 10 | 1, 1 << 5, 1L << 40, (1L << 40) - 1, Long.MAX_VALUE, Long.MIN_VALUE,
            Check.name("abcdefghi")};
        for (long name : names) {
            CHECK.refused(x, "far of " + name, x.far(name, 1), 1);
            CHECK.refused(x, "far to " + name, x.far(1, name), 1);
            CHECK.refused(x, "person " + name, x.person(name, 0, 0), 1);
            CHECK.refused(x, "entry " + name, x.entry(0, name, 0, 0, 1), 1);
        }
        CHECK.fine(x, "the greatest NAME", x.far(Check.name("zzzzzzzz"), 1), 8);
        CHECK.fine(x, "the least NAME", x.person(1, 0, 0), 0);
    }

    private static void persons() {
        PollBooks x = new PollBooks();
        CHECK.refused(x, "trade -1", x.person(1, -1, 0), 1);
        CHECK.refused(x, "trade 20", x.person(1, 20, 0), 1);
        CHECK.refused(x, "home -1", x.person(1, 0, -1), 1);
        CHECK.refused(x, "home 7", x.person(1, 0, 7), 1);
        for (int i = 0; i < 40; i++) {
            CHECK.fine(x, "person", x.person(1, 19, 6), i);
        }
        CHECK.refused(x, "a 41st", x.person(1, 19, 6), 4);
        CHECK.refused(x, "a 41st that can't be", x.person(0, 19, 6), 1);
        CHECK.fine(x, "trade", x.fact(39, 6, 0, 4), 19);
    }

    private static void holdRefuses() {
        PollBooks x = new PollBooks();
        x.person(1, 0, 0);
        CHECK.refused(x, "person -1", x.hold(-1, 0, 1, 0, 0, 0), 1);
        CHECK.refused(x, "person 1", x.hold(1, 0, 1, 0, 0, 0), 1);
        CHECK.refused(x, "plot -1", x.hold(0, -1, 1, 0, 0, 0), 1);
        CHECK.refused(x, "plot 40", x.hold(0, 40, 1, 0, 0, 0), 1);
        CHECK.refused(x, "no shilling", x.hold(0, 0, 0, 0, 0, 0), 1);
        CHECK.refused(x, "1,001 shillings", x.hold(0, 0, 1001, 0, 0, 0), 1);
        CHECK.refused(x, "from -1", x.hold(0, 0, 1, -1, 0, 0), 1);
        CHECK.refused(x, "to 10,000", x.hold(0, 0, 1, 0, 10000, 0), 1);
        CHECK.refused(x, "to ahead of from", x.hold(0, 0, 1, 5, 4, 0), 1);
        CHECK.refused(x, "known -1", x.hold(0, 0, 1, 0, 0, -1), 1);
        CHECK.refused(x, "known 10,000", x.hold(0, 0, 1, 0, 0, 10000), 1);
        CHECK.fine(x, "no land of all that", x.fact(0, 0, 0, 1), 0);
        CHECK.fine(x, "hold", x.hold(0, 39, 1000, 9999, 9999, 0));
        CHECK.fine(x, "land", x.fact(0, 0, 9999, 0), 1000);
    }

    private static void splitRefuses() {
        PollBooks x = new PollBooks();
        CHECK.refused(x, "plot -1", x.split(-1, 0, 0), 1);
        CHECK.refused(x, "plot 40", x.split(40, 0, 0), 1);
        CHECK.refused(x, "day -1", x.split(0, -1, 0), 1);
        CHECK.refused(x, "day 10,000", x.split(0, 10000, 0), 1);
        CHECK.refused(x, "known -1", x.split(0, 0, -1), 1);
        CHECK.refused(x, "known 10,000", x.split(0, 0, 10000), 1);
        CHECK.fine(x, "split known ahead of its DAY", x.split(39, 9999, 0));
    }

    private static void payRefuses() {
        PollBooks x = new PollBooks();
        x.person(1, 0, 0);
        CHECK.refused(x, "person 1", x.pay(1, 1, 0, true, 0), 1);
        CHECK.refused(x, "no shilling", x.pay(0, 0, 0, true, 0), 1);
        CHECK.refused(x, "1,001 shillings", x.pay(0, 1001, 0, true, 0), 1);
        CHECK.refused(x, "day 10,000", x.pay(0, 1, 10000, true, 0), 1);
        CHECK.refused(x, "known -1", x.pay(0, 1, 0, true, -1), 1);
        CHECK.fine(x, "pay", x.pay(0, 1000, 0, true, 0));
        CHECK.fine(x, "paid", x.fact(0, 0, 0, 6), 1000);
    }

    private static void knownDaysNeverGoBack() {
        PollBooks x = new PollBooks();
        x.person(1, 0, 0);
        CHECK.fine(x, "split", x.split(0, 0, 10));
        CHECK.refused(x, "hold", x.hold(0, 0, 1, 0, 9, 9), 5);
        CHECK.refused(x, "pay", x.pay(0, 1, 0, true, 9), 5);
        CHECK.refused(x, "split", x.split(0, 0, 9), 5);
        CHECK.refused(x, "what can't be comes first", x.split(40, 0, 9), 1);
        CHECK.fine(x, "the same DAY", x.pay(0, 1, 0, false, 10));
        CHECK.fine(x, "a later one", x.hold(0, 0, 1, 0, 9, 20));
        CHECK.refused(x, "split behind it", x.split(0, 0, 19), 5);
        CHECK.refused(x, "pay behind it", x.pay(0, 1, 0, true, 19), 5);
        CHECK.fine(x, "pay on it", x.pay(0, 1, 0, true, 21));
        CHECK.refused(x, "hold behind that", x.hold(0, 0, 1, 0, 9, 20), 5);
        CHECK.refused(x, "refused, so it counts nothing", x.hold(0, 99, 1, 0, 9, 99), 1);
        CHECK.fine(x, "hold on it", x.hold(0, 0, 1, 0, 9, 21));
    }

    private static void limits() {
        PollBooks x = new PollBooks();
        x.person(1, 0, 0);
        for (int i = 0; i < 80; i++) {
            CHECK.fine(x, "hold " + i, x.hold(0, 0, 1000, 0, 9, 50));
        }
        CHECK.refused(x, "an 81st", x.hold(0, 0, 1000, 0, 9, 50), 4);
        CHECK.refused(x, "an 81st of a DAY gone", x.hold(0, 0, 1000, 0, 9, 5), 4);
        for (int i = 0; i < 30; i++) {
            CHECK.fine(x, "split " + i, x.split(0, i, 50));
        }
        CHECK.refused(x, "a 31st", x.split(0, 0, 5), 4);
        for (int i = 0; i < 60; i++) {
            CHECK.fine(x, "pay " + i, x.pay(0, 1000, 0, i % 2 == 0, 50));
        }
        CHECK.refused(x, "a 61st", x.pay(0, 1000, 0, true, 5), 4);
        CHECK.fine(x, "land", x.fact(0, 0, 9, 0), 80000);
        CHECK.fine(x, "plots", x.fact(0, 0, 9, 1), 80);
        CHECK.fine(x, "split", x.fact(0, 0, 9, 3), 0);
        CHECK.fine(x, "paid", x.fact(0, 0, 9, 6), 30000);
    }

    private static void landFacts() {
        PollBooks x = new PollBooks();
        x.person(1, 7, 3);
        x.person(2, 8, 4);
        x.hold(0, 5, 10, 100, 200, 0);
        x.hold(0, 5, 20, 150, 250, 0);
        x.hold(1, 6, 40, 0, 9999, 0);
        int[][] due = {{99, 0, 0, 0}, {100, 10, 1, 0}, {149, 10, 1, 49}, {150, 30, 2, 50}, {200, 30, 2, 100}, {201, 20, 1, 51},
            {250, 20, 1, 100}, {251, 0, 0, 0}};
        for (int[] d : due) {
            for (int what = 0; what < 3; what++) {
                CHECK.fine(x, "fact " + what + " on " + d[0], x.fact(0, 0, d[0], what), d[what + 1]);
            }
        }
        CHECK.fine(x, "trade", x.fact(0, 0, 0, 4), 7);
        CHECK.fine(x, "home", x.fact(0, 3, 0, 5), 1);
        CHECK.fine(x, "not home", x.fact(0, 4, 0, 5), 0);
        CHECK.refused(x, "person 2", x.fact(2, 0, 0, 0), 1);
        CHECK.refused(x, "person -1", x.fact(-1, 0, 0, 0), 1);
        CHECK.refused(x, "place 7", x.fact(0, 7, 0, 0), 1);
        CHECK.refused(x, "place -1", x.fact(0, -1, 0, 0), 1);
        CHECK.refused(x, "day -1", x.fact(0, 0, -1, 0), 1);
        CHECK.refused(x, "day 10,000", x.fact(0, 0, 10000, 0), 1);
        CHECK.refused(x, "what -1", x.fact(0, 0, 0, -1), 1);
        CHECK.refused(x, "what 7", x.fact(0, 0, 0, 7), 1);
    }

    private static void splitFacts() {
        PollBooks x = new PollBooks();
        x.person(1, 0, 0);
        x.hold(0, 0, 1, 50, 200, 0);
        x.hold(0, 39, 1, 50, 90, 0);
        x.split(0, 40, 0);
        x.split(39, 70, 0);
        x.split(0, 120, 0);
        x.split(7, 100, 0);
        CHECK.fine(x, "no land on that DAY", x.fact(0, 0, 49, 3), 9999);
        CHECK.fine(x, "split ahead of holding it", x.fact(0, 0, 50, 3), 10);
        CHECK.fine(x, "another PLOT later", x.fact(0, 0, 70, 3), 0);
        CHECK.fine(x, "the nearest", x.fact(0, 0, 90, 3), 20);
        CHECK.fine(x, "that one no more held", x.fact(0, 0, 91, 3), 51);
        CHECK.fine(x, "the day ahead", x.fact(0, 0, 119, 3), 79);
        CHECK.fine(x, "split again", x.fact(0, 0, 121, 3), 1);
    }

    private static void paidFacts() {
        PollBooks x = new PollBooks();
        x.person(1, 0, 0);
        x.person(1, 0, 0);
        x.pay(0, 5, 10, true, 0);
        x.pay(0, 50, 10, false, 0);
        x.pay(0, 500, 11, true, 0);
        x.pay(1, 7, 0, true, 0);
        CHECK.fine(x, "ahead", x.fact(0, 0, 9, 6), 0);
        CHECK.fine(x, "PROVED alone", x.fact(0, 0, 10, 6), 5);
        CHECK.fine(x, "all by then", x.fact(0, 0, 11, 6), 505);
    }

    private static void asOf() {
        PollBooks x = new PollBooks();
        x.person(1, 0, 0);
        x.hold(0, 0, 3, 0, 9999, 10);
        x.split(0, 5, 20);
        x.pay(0, 8, 6, true, 30);
        CHECK.refused(x, "asof -1", x.asof(-1), 1);
        CHECK.refused(x, "asof 10,000", x.asof(10000), 1);
        int[][] due = {{9, 0, 9999, 0}, {10, 3, 9999, 0}, {19, 3, 9999, 0}, {20, 3, 4, 0}, {29, 3, 4, 0}, {30, 3, 4, 8}};
        for (int[] d : due) {
            CHECK.fine(x, "asof " + d[0], x.asof(d[0]));
            CHECK.fine(x, "land as of " + d[0], x.fact(0, 0, 9, 0), d[1]);
            CHECK.fine(x, "split as of " + d[0], x.fact(0, 0, 9, 3), d[2]);
            CHECK.fine(x, "paid as of " + d[0], x.fact(0, 0, 9, 6), d[3]);
        }
        CHECK.fine(x, "asof 0", x.asof(0));
        CHECK.refused(x, "asof refused stays", x.asof(10000), 1);
        CHECK.fine(x, "land as of 0", x.fact(0, 0, 9, 0), 0);
        CHECK.fine(x, "told all the same, by the last DAY known", x.hold(0, 1, 3, 0, 9999, 30));
    }
}
