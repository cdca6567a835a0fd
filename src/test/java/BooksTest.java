/** Promises 23 to 31: ENTRIES, how they are JOINED, WHO they are, OFFERS. */
public final class BooksTest {
    private static final Check CHECK = new Check();

    public static void main(String[] args) {
        entries();
        costs();
        joinsInOrder();
        firstOfSeveral();
        joinedSets();
        tallies();
        whoIsNearest();
        reach();
        sureAndTwice();
        offers();
        CHECK.end();
    }

    private static long name(String word) {
        return Check.name(word);
    }

    private static void entries() {
        PollBooks x = new PollBooks();
        CHECK.refused(x, "book -1", x.entry(-1, 1, 0, 0, 1), 1);
        CHECK.refused(x, "book 3", x.entry(3, 1, 0, 0, 1), 1);
        CHECK.refused(x, "trade -2", x.entry(0, 1, -2, 0, 1), 1);
        CHECK.refused(x, "trade 20", x.entry(0, 1, 20, 0, 1), 1);
        CHECK.refused(x, "minute -1", x.entry(0, 1, 0, -1, 1), 1);
        CHECK.refused(x, "minute 1,440", x.entry(0, 1, 0, 1440, 1), 1);
        CHECK.refused(x, "set 0", x.entry(0, 1, 0, 0, 0), 1);
        CHECK.refused(x, "set 16", x.entry(0, 1, 0, 0, 16), 1);
        PollBooks y = new PollBooks();
        CHECK.fine(y, "trade 19", y.entry(0, 1, 19, 0, 1), 0);
        for (int i = 0; i < 30; i++) {
            for (int book = 0; book < 3; book++) {
                CHECK.fine(x, "entry", x.entry(book, 1, -1, 1439, 15), i);
            }
        }
        for (int book = 0; book < 3; book++) {
            CHECK.refused(x, "a 31st", x.entry(book, 1, -1, 0, 1), 4);
            CHECK.refused(x, "a 31st that can't be", x.entry(book, 0, -1, 0, 1), 1);
        }
        CHECK.fine(x, "join", x.join(1), 0);
        CHECK.fine(x, "mate", x.mate(2, 29), 29);
        CHECK.fine(x, "joined", x.joined(29), 15);
        CHECK.fine(x, "tally", x.tally(3, 3), 30);
    }

    /** COST of two ENTRIES, book 0's at 600 for CANDIDATE 0. */
    private static void cost(int trade, String other, int otherTrade, int minute, int set, int want) {
        PollBooks x = new PollBooks();
        x.entry(0, name("smith"), trade, 600, 1);
        x.entry(1, name(other), otherTrade, minute, set);
        CHECK.fine(x, "join of " + other, x.join(1), Math.min(20, want));
        if (want <= 20) {
            CHECK.fine(x, "mate of " + other, x.mate(1, 0), 0);
        } else {
            CHECK.refused(x, "no mate of " + other, x.mate(1, 0), 6);
        }
    }

    private static void costs() {
        cost(3, "smith", 3, 600, 1, 0);
        cost(3, "smyth", 3, 600, 1, 3);
        cost(3, "smythe", 3, 600, 1, 6);
        cost(3, "smith", 4, 600, 1, 2);
        cost(-1, "smith", 4, 600, 1, 0);
        cost(3, "smith", -1, 600, 1, 0);
        cost(3, "smith", 3, 609, 1, 0);
        cost(3, "smith", 3, 610, 1, 1);
        cost(3, "smith", 3, 591, 1, 0);
        cost(3, "smith", 3, 590, 1, 1);
        cost(3, "smith", 3, 649, 1, 4);
        cost(3, "smith", 3, 650, 1, 5);
        cost(3, "smith", 3, 1439, 1, 5);
        cost(3, "smith", 3, 0, 1, 5);
        cost(3, "smith", 3, 600, 2, 4);
        cost(3, "smith", 3, 600, 3, 4);
        cost(3, "smyth", 4, 700, 8, 14);
        cost(3, "sxxxh", 4, 700, 8, 20);
        cost(3, "sxxxx", 4, 700, 8, 23);
        cost(3, "sxxth", 4, 620, 2, 14);
        PollBooks x = new PollBooks();
        x.entry(2, 1, 0, 0, 1);
        x.entry(2, 1, 0, 0, 1);
        CHECK.fine(x, "book 0 is empty", x.join(2), 20);
        PollBooks late = new PollBooks();
        late.entry(1, name("hall"), -1, 600, 1);
        late.entry(2, name("hole"), -1, 600, 1);
        late.entry(0, name("hall"), -1, 600, 2);
        CHECK.fine(late, "book 1 was there first", late.join(1), 4);
        CHECK.fine(late, "book 2 was there first", late.join(2), 10);
        CHECK.refused(x, "join 0", x.join(0), 1);
        CHECK.refused(x, "join 3", x.join(3), 1);
        CHECK.refused(x, "join -1", x.join(-1), 1);
        CHECK.refused(x, "mate of none", x.mate(2, 0), 1);
    }

    private static void joinsInOrder() {
        PollBooks x = new PollBooks();
        String[] mine = {"aaaaaaaa", "bbbbbbbb", "cccccccc", "dddddddd"};
        String[] theirs = {"bbbbbbbb", "aaaaaaaa", "cccccccc", "ffffffff", "dddddddd"};
        for (String n : mine) {
            x.entry(0, name(n), -1, 600, 1);
        }
        for (String n : theirs) {
            x.entry(1, name(n), -1, 600, 1);
        }
        // the first two are crossed: one pair of both alone can be, and none stands behind all
        CHECK.fine(x, "join", x.join(1), 30);
        CHECK.fine(x, "mate of a", x.mate(1, 0), 1);
        CHECK.refused(x, "mate of b", x.mate(1, 1), 6);
        CHECK.fine(x, "mate of c", x.mate(1, 2), 2);
        CHECK.fine(x, "mate of d", x.mate(1, 3), 4);
        CHECK.refused(x, "mate of 4", x.mate(1, 4), 1);
        CHECK.refused(x, "mate of -1", x.mate(1, -1), 1);
        CHECK.refused(x, "mate in book 0", x.mate(0, 0), 1);
        CHECK.refused(x, "mate in book 3", x.mate(3, 0), 1);
        CHECK.refused(x, "mate in an empty book", x.mate(2, 0), 6);
        CHECK.fine(x, "join with an empty book", x.join(2), 40);
    }

    private static void firstOfSeveral() {
        PollBooks x = new PollBooks();
        x.entry(0, 1, -1, 600, 1);
        for (int i = 0; i < 3; i++) {
            x.entry(1, 1, -1, 600, 1);
        }
        CHECK.fine(x, "the lesser ENTRY", x.mate(1, 0), 0);
        x.entry(0, 1, -1, 600, 1);
        CHECK.fine(x, "the lesser ENTRY again", x.mate(1, 0), 0);
        CHECK.fine(x, "the next", x.mate(1, 1), 1);
        // none stands behind all: the first of two like ENTRIES has the one mate
        x.entry(2, 1, -1, 600, 1);
        CHECK.fine(x, "the first has it", x.mate(2, 0), 0);
        CHECK.refused(x, "the second has none", x.mate(2, 1), 6);
        CHECK.fine(x, "join", x.join(2), 10);
        // a pair of COST 20 is like two in none: the pair is first
        PollBooks y = new PollBooks();
        y.entry(0, name("smith"), 3, 600, 1);
        y.entry(1, name("sxxxh"), 4, 700, 8);
        CHECK.fine(y, "join", y.join(1), 20);
        CHECK.fine(y, "the pair", y.mate(1, 0), 0);
    }

    private static void joinedSets() {
        // sets of books 0, 1, 2 (0: not there), and the JOINED SET
        int[][] due = {{5, 0, 0, 5}, {1, 2, 0, 1}, {3, 2, 0, 3}, {1, 3, 0, 1}, {15, 15, 0, 15}, {1, 2, 2, 2}, {1, 2, 4, 0},
            {3, 6, 4, 6}, {3, 3, 12, 3}, {7, 9, 10, 11}, {8, 0, 8, 8}, {8, 0, 4, 8}, {1, 3, 2, 3}};
        for (int[] d : due) {
            PollBooks x = new PollBooks();
            for (int book = 0; book < 3; book++) {
                if (d[book] != 0) {
                    x.entry(book, 9, -1, 600, d[book]);
                }
            }
            CHECK.fine(x, "joined of " + d[0] + " " + d[1] + " " + d[2], x.joined(0), d[3]);
            CHECK.refused(x, "joined(1)", x.joined(1), 1);
            CHECK.refused(x, "joined(-1)", x.joined(-1), 1);
        }
    }

    private static void tallies() {
        PollBooks x = new PollBooks();
        x.entry(0, name("adam"), -1, 600, 1);
        x.entry(0, name("burton"), -1, 600, 3);
        x.entry(1, name("adam"), -1, 600, 6);
        x.entry(2, name("adam"), -1, 600, 6);
        x.entry(2, name("zzzzzzzz"), -1, 600, 8);
        int[][] due = {{2, 1, 0, 0}, {0, 1, 1, 0}, {0, 1, 1, 1}, {1, 2, 1, 0}};
        for (int book = 0; book < 4; book++) {
            for (int c = 0; c < 4; c++) {
                CHECK.fine(x, "tally(" + book + ", " + c + ")", x.tally(book, c), due[book][c]);
            }
        }
        CHECK.refused(x, "book 4", x.tally(4, 0), 1);
        CHECK.refused(x, "book -1", x.tally(-1, 0), 1);
        CHECK.refused(x, "candidate 4", x.tally(0, 4), 1);
        CHECK.refused(x, "candidate -1", x.tally(3, -1), 1);
    }

    private static void whoIsNearest() {
        PollBooks x = new PollBooks();
        x.entry(0, name("smith"), 3, 600, 1);
        x.entry(0, name("smith"), -1, 600, 1);
        CHECK.refused(x, "nobody is there", x.who(0), 6);
        x.person(name("smythe"), 3, 0);
        CHECK.fine(x, "the only one", x.who(0), 0);
        x.person(name("smyth"), 4, 0);
        CHECK.fine(x, "nearer with 3 and 2", x.who(0), 1);
        x.person(name("smyth"), 3, 0);
        CHECK.fine(x, "nearest with 3", x.who(0), 2);
        CHECK.fine(x, "without a TRADE of several the lesser", x.who(1), 1);
        x.person(name("smith"), 4, 0);
        CHECK.fine(x, "nearest with 2", x.who(0), 3);
        CHECK.fine(x, "nearest with 0", x.who(1), 3);
        PollBooks longer = new PollBooks();
        longer.entry(0, name("abcdefgh"), -1, 600, 1);
        longer.person(name("abcdefxx"), 0, 0);
        longer.person(name("abcdefgx"), 0, 0);
        CHECK.fine(longer, "by the last of eight letters", longer.who(0), 1);
        CHECK.refused(x, "who(2)", x.who(2), 1);
        CHECK.refused(x, "who(-1)", x.who(-1), 1);
        x.entry(1, name("smith"), 3, 600, 1);
        CHECK.refused(x, "ENTRIES of book 0 alone", x.who(2), 1);
    }

    private static void reach() {
        PollBooks x = new PollBooks();
        x.person(name("smith"), 3, 0);
        x.entry(0, name("smxxh"), 3, 600, 1);
        x.entry(0, name("smxxh"), 4, 600, 1);
        CHECK.fine(x, "6 is in reach at first", x.who(0), 0);
        CHECK.refused(x, "8 is not", x.who(1), 6);
        CHECK.refused(x, "reach -1", x.reach(-1), 1);
        CHECK.refused(x, "reach 31", x.reach(31), 1);
        CHECK.fine(x, "reach 8", x.reach(8));
        CHECK.fine(x, "8 is now", x.who(1), 0);
        CHECK.fine(x, "reach 7", x.reach(7));
        CHECK.refused(x, "8 is not again", x.who(1), 6);
        CHECK.fine(x, "reach 0", x.reach(0));
        CHECK.refused(x, "6 is not", x.who(0), 6);
        x.entry(0, name("smith"), -1, 600, 1);
        CHECK.fine(x, "0 is", x.who(2), 0);
        x.entry(0, name("abcdefgj"), 4, 600, 1);
        CHECK.fine(x, "reach 30", x.reach(30));
        CHECK.fine(x, "all is", x.who(3), 0);
    }

    private static void sureAndTwice() {
        PollBooks x = new PollBooks();
        x.entry(0, name("hale"), -1, 600, 1);
        CHECK.refused(x, "nobody is not sure", x.sure(0, 0), 6);
        CHECK.refused(x, "nobody is not twice", x.sure(0, 1), 6);
        x.person(name("hall"), 1, 0);
        CHECK.fine(x, "sure", x.sure(0, 0), 1);
        x.person(name("hole"), 2, 0);
        CHECK.fine(x, "one of two", x.sure(0, 0), 0);
        CHECK.fine(x, "the lesser", x.who(0), 0);
        x.entry(0, name("hale"), 2, 600, 1);
        CHECK.fine(x, "by TRADE", x.who(1), 1);
        CHECK.fine(x, "sure by TRADE", x.sure(1, 0), 1);
        CHECK.fine(x, "not twice", x.sure(1, 1), 0);
        x.entry(0, name("hall"), -1, 600, 1);
        x.entry(0, name("hole"), -1, 600, 1);
        CHECK.fine(x, "twice", x.sure(2, 1), 1);
        CHECK.fine(x, "twice too", x.sure(3, 1), 1);
        CHECK.fine(x, "the first is not", x.sure(0, 1), 0);
        x.reach(0);
        CHECK.fine(x, "not twice, as the first is nobody", x.sure(2, 1), 0);
        CHECK.refused(x, "nobody", x.sure(0, 0), 6);
        x.reach(6);
        x.person(name("hale"), 9, 0);
        CHECK.fine(x, "a nearer one alone is sure", x.sure(0, 0), 1);
        CHECK.fine(x, "the third is the first of its PERSON now", x.sure(2, 1), 0);
        CHECK.refused(x, "what 2", x.sure(0, 2), 1);
        CHECK.refused(x, "what -1", x.sure(0, -1), 1);
        CHECK.refused(x, "entry 4", x.sure(4, 0), 1);
        CHECK.refused(x, "entry -1", x.sure(-1, 0), 1);
    }

    private static void offers() {
        PollBooks x = new PollBooks();
        CHECK.refused(x, "nobody", x.offer(0, 1, 0), 1);
        x.person(1, 0, 0);
        CHECK.refused(x, "person -1", x.offer(-1, 1, 0), 1);
        CHECK.refused(x, "set 0", x.offer(0, 0, 0), 1);
        CHECK.refused(x, "set 16", x.offer(0, 16, 0), 1);
        CHECK.refused(x, "minute -1", x.offer(0, 1, -1), 1);
        CHECK.refused(x, "minute 1,440", x.offer(0, 1, 1440), 1);
        for (int i = 0; i < 20; i++) {
            CHECK.fine(x, "offer", x.offer(0, 15, 1439), i);
        }
        CHECK.refused(x, "a 21st", x.offer(0, 15, 1439), 4);
        CHECK.refused(x, "a 21st that can't be", x.offer(1, 15, 1439), 1);
    }
}
