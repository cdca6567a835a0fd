/** The bounds that part 3 of the document names: COST, JOINED, JOINED SETS, WHO, SURE, TWICE. */
public final class BookBoundsTest {
    private static final Check CHECK = new Check();

    public static void main(String[] args) {
        minutesBetween();
        tradesUnlike();
        setsUnlike();
        lettersFar();
        aPairOrTwoInNone();
        emptyAndUnlikeBooks();
        inTheOrderInWhichTheyStand();
        theFirstOfSeveral();
        moreThanHalfOfTwoAndThree();
        matesFurtherBehind();
        talliesOfEach();
        reachAtEachDistance();
        reachAtFirst();
        nobodyWithoutPersons();
        theLesserOfSeveral();
        twiceBehindTheFirst();
        CHECK.end();
    }

    private static int cost(long name, int trade, int minute, int set, long... other) {
        PollBooks x = new PollBooks();
        x.entry(0, name, trade, minute, set);
        x.entry(2, other[0], (int) other[1], (int) other[2], (int) other[3]);
        PollBooks y = new PollBooks();
        y.entry(1, other[0], (int) other[1], (int) other[2], (int) other[3]);
        y.entry(0, name, trade, minute, set);
        CHECK.due("both BOOKS, told in either order, cost the same", x.join(2), y.join(1));
        return x.join(2);
    }

    /** "1 for each ten MINUTES between them (rounded down), 5 at most". */
    private static void minutesBetween() {
        for (int between = 0; between <= 120; between++) {
            int due = Math.min(5, between / 10);
            CHECK.due("behind by " + between, cost(1, 0, 600, 1, 1, 0, 600 + between, 1), due);
            CHECK.due("ahead by " + between, cost(1, 0, 600, 1, 1, 0, 600 - between, 1), due);
        }
        CHECK.due("the whole day", cost(1, 0, 0, 1, 1, 0, 1439, 1), 5);
        CHECK.due("the whole day back", cost(1, 0, 1439, 1, 1, 0, 0, 1), 5);
    }

    /** "2, if both have TRADES and these are unlike". */
    private static void tradesUnlike() {
        int[] trades = {-1, 0, 1, 19};
        for (int a : trades) {
            for (int b : trades) {
                CHECK.due("trades " + a + " " + b, cost(1, a, 0, 1, 1, b, 0, 1), a != -1 && b != -1 && a != b ? 2 : 0);
            }
        }
    }

    /** "4, if the SETS are unlike". */
    private static void setsUnlike() {
        for (int a = 1; a <= 15; a++) {
            for (int b = 1; b <= 15; b++) {
                CHECK.due("sets " + a + " " + b, cost(1, 0, 0, a, 1, 0, 0, b), a == b ? 0 : 4);
            }
        }
    }

    /** "3 times FAR". */
    private static void lettersFar() {
        for (int n = 0; n <= 8; n++) {
            long other = Check.name("abcdefgh".substring(0, 8 - n) + "z".repeat(n));
            // from seven letters on the two stand in none
            CHECK.due("far by " + n, cost(Check.name("abcdefgh"), 0, 0, 1, other, 0, 0, 1), Math.min(20, 3 * n));
        }
    }

    /** "COST of all pairs and 10 for each ENTRY in none are least together": a pair of 20 is first, one of 21 is none. */
    private static void aPairOrTwoInNone() {
        // 3 times FAR of 4 to 7, and 0 to 5 for MINUTES, with trades and sets like or not
        for (int letters = 3; letters <= 7; letters++) {
            for (int tens = 0; tens <= 5; tens++) {
                for (int mix = 0; mix < 4; mix++) {
                    int due = 3 * letters + tens + (mix & 1) * 2 + (mix >> 1) * 4;
                    PollBooks x = new PollBooks();
                    x.entry(0, Check.name("abcdefgh"), 0, 600, 1);
                    x.entry(1, Check.name("abcdefgh".substring(0, 8 - letters) + "z".repeat(letters)), mix & 1, 600 + 10 * tens,
                        1 + (mix >> 1));
                    CHECK.fine(x, "join of " + due, x.join(1), Math.min(20, due));
                    if (due <= 20) {
                        CHECK.fine(x, "mate at " + due, x.mate(1, 0), 0);
                    } else {
                        CHECK.refused(x, "no mate at " + due, x.mate(1, 0), 6);
                    }
                }
            }
        }
    }

    private static void emptyAndUnlikeBooks() {
        for (int mine = 0; mine <= 30; mine += 15) {
            for (int theirs = 0; theirs <= 30; theirs += 10) {
                PollBooks x = new PollBooks();
                for (int i = 0; i < mine; i++) {
                    x.entry(0, Check.name("abcdefgh"), -1, 600, 1);
                }
                for (int i = 0; i < theirs; i++) {
                    x.entry(1, Check.name("abcdefgh"), -1, 600, 1);
                    x.entry(2, Check.name("ijklmnop"), -1, 600, 1);
                }
                CHECK.fine(x, "like ones", x.join(1), 10 * Math.abs(mine - theirs));
                CHECK.fine(x, "unlike ones", x.join(2), 10 * (mine + theirs));
                if (mine > 0) {
                    CHECK.refused(x, "none of them", x.mate(2, mine - 1), 6);
                    if (theirs >= mine) {
                        CHECK.fine(x, "the last", x.mate(1, mine - 1), mine - 1);
                    } else {
                        CHECK.refused(x, "the last has none", x.mate(1, mine - 1), 6);
                    }
                }
            }
        }
    }

    private static PollBooks books(String mine, String theirs) {
        PollBooks x = new PollBooks();
        for (char c : mine.toCharArray()) {
            x.entry(0, Check.name(String.valueOf(c).repeat(8)), -1, 600, 1);
        }
        for (char c : theirs.toCharArray()) {
            x.entry(1, Check.name(String.valueOf(c).repeat(8)), -1, 600, 1);
        }
        return x;
    }

    private static void mates(String mine, String theirs, int join, int... mates) {
        PollBooks x = books(mine, theirs);
        CHECK.fine(x, "join of " + mine + " " + theirs, x.join(1), join);
        for (int i = 0; i < mates.length; i++) {
            if (mates[i] < 0) {
                CHECK.refused(x, "mate " + i + " of " + mine + " " + theirs, x.mate(1, i), 6);
            } else {
                CHECK.fine(x, "mate " + i + " of " + mine + " " + theirs, x.mate(1, i), mates[i]);
            }
        }
        CHECK.refused(x, "mate of one more", x.mate(1, mates.length), 1);
    }

    /** "ENTRIES in pairs, in both in the order in which they stand, each in one at most". */
    private static void inTheOrderInWhichTheyStand() {
        mates("abc", "abc", 0, 0, 1, 2);
        mates("abc", "cab", 20, 1, 2, -1);
        mates("abc", "bca", 20, -1, 0, 1);
        mates("ab", "ba", 20, 1, -1);
        mates("abcd", "xaybzcwd", 40, 1, 3, 5, 7);
        mates("xaybzcwd", "abcd", 40, -1, 0, -1, 1, -1, 2, -1, 3);
        mates("a", "bbba", 30, 3);
        mates("bbba", "a", 30, -1, -1, -1, 0);
    }

    /** "of several the first: by book 0's ENTRIES the lesser ENTRY of the other one, none behind all". */
    private static void theFirstOfSeveral() {
        mates("a", "aaa", 20, 0);
        mates("aaa", "a", 20, 0, -1, -1);
        mates("aa", "aaa", 10, 0, 1);
        mates("aaa", "aa", 10, 0, 1, -1);
        mates("abab", "ab", 20, 0, 1, -1, -1);
        mates("ab", "abab", 20, 0, 1);
        mates("aba", "bab", 20, 1, 2, -1);
        mates("ba", "aba", 10, 1, 2);
        mates("abb", "bba", 20, -1, 0, 1);
    }

    /** "those CANDIDATES that more than half of the BOOKS have that have it; of one that just half have as book 0 says". */
    private static void moreThanHalfOfTwoAndThree() {
        for (int a = 1; a <= 15; a++) {
            joined(a, 0, 0, a);
            for (int b = 1; b <= 15; b++) {
                joined(a, b, 0, a);
                joined(a, 0, b, a);
                for (int c = 1; c <= 15; c++) {
                    joined(a, b, c, a & b | a & c | b & c);
                }
            }
        }
    }

    private static void joined(int a, int b, int c, int want) {
        PollBooks x = new PollBooks();
        x.entry(0, 9, -1, 600, a);
        if (b != 0) {
            x.entry(1, 9, -1, 600, b);
        }
        if (c != 0) {
            x.entry(2, 9, -1, 600, c);
        }
        CHECK.due("joined of " + a + " " + b + " " + c, x.joined(0), want);
    }

    /** The pairs' SETS, wherever they stand in their BOOKS. */
    private static void matesFurtherBehind() {
        for (int first = 0; first < 4; first++) {
            for (int second = 0; second < 4; second++) {
                PollBooks x = new PollBooks();
                for (int i = 0; i < first; i++) {
                    x.entry(1, Check.name("yyyyyyyy"), -1, 600, 15);
                }
                for (int i = 0; i < second; i++) {
                    x.entry(2, Check.name("zzzzzzzz"), -1, 600, 15);
                }
                String[] names = {"abcdefgh", "ijklmnop", "qrstuvwx"};
                int[][] sets = {{1, 6, 6}, {8, 3, 5}, {4, 9, 12}};
                for (int i = 0; i < 3; i++) {
                    for (int book = 0; book < 3; book++) {
                        x.entry(book, Check.name(names[i]), -1, 600, sets[i][book]);
                    }
                }
                int[] due = {6, 1, 12};
                for (int i = 0; i < 3; i++) {
                    CHECK.fine(x, "mate in 1", x.mate(1, i), first + i);
                    CHECK.fine(x, "mate in 2", x.mate(2, i), second + i);
                    CHECK.fine(x, "joined", x.joined(i), due[i]);
                }
                int[] joinedTally = {1, 1, 2, 1};
                for (int c = 0; c < 4; c++) {
                    CHECK.fine(x, "tally of JOINED SETS", x.tally(3, c), joinedTally[c]);
                }
            }
        }
    }

    private static void talliesOfEach() {
        for (int set = 1; set <= 15; set++) {
            for (int book = 0; book < 3; book++) {
                PollBooks x = new PollBooks();
                x.entry(book, 1, -1, 600, set);
                for (int c = 0; c < 4; c++) {
                    for (int told = 0; told < 4; told++) {
                        boolean there = told == book || told == 3 && book == 0;
                        CHECK.fine(x, "tally(" + told + ", " + c + ")", x.tally(told, c), there ? set >> c & 1 : 0);
                    }
                }
            }
        }
    }

    /** "at most REACH (0 to 30; 6 at first)": an ENTRY just as far is that PERSON, one further is nobody. */
    private static void reachAtEachDistance() {
        for (int letters = 0; letters <= 8; letters++) {
            for (int unlike = 0; unlike < 2; unlike++) {
                int far = 3 * letters + 2 * unlike;
                PollBooks x = new PollBooks();
                x.person(Check.name("abcdefgh"), 3, 0);
                x.entry(0, Check.name("abcdefgh".substring(0, 8 - letters) + "z".repeat(letters)), 3 + unlike, 600, 1);
                for (int reach = 0; reach <= 30; reach++) {
                    CHECK.fine(x, "reach", x.reach(reach));
                    if (far <= reach) {
                        CHECK.fine(x, "who at " + far + " by " + reach, x.who(0), 0);
                        CHECK.fine(x, "sure", x.sure(0, 0), 1);
                    } else {
                        CHECK.refused(x, "who at " + far + " by " + reach, x.who(0), 6);
                        CHECK.refused(x, "sure", x.sure(0, 0), 6);
                    }
                }
                CHECK.refused(x, "reach 31", x.reach(31), 1);
                CHECK.refused(x, "reach -1", x.reach(-1), 1);
                CHECK.fine(x, "30 stays", x.who(0), 0);
            }
        }
    }

    private static void reachAtFirst() {
        PollBooks x = new PollBooks();
        x.person(Check.name("abcdefgh"), 3, 0);
        String[] names = {"abcdefgh", "abcdefgz", "abcdefzz", "abcdezzz"};
        for (int i = 0; i < 4; i++) {
            x.entry(0, Check.name(names[i]), 3, 600, 1);
            x.entry(0, Check.name(names[i]), 4, 600, 1);
            x.entry(0, Check.name(names[i]), -1, 600, 1);
        }
        // 0, 2, 0; 3, 5, 3; 6, 8, 6; 9, 11, 9
        int[] due = {0, 0, 0, 0, 0, 0, 0, -1, 0, -1, -1, -1};
        for (int e = 0; e < due.length; e++) {
            CHECK.due("who(" + e + ")", x.who(e), due[e]);
            CHECK.due("status of it", x.status(), due[e] == 0 ? 0 : 6);
        }
    }

    /** "nobody if all are more", and where there is no PERSON at all. */
    private static void nobodyWithoutPersons() {
        for (String name : new String[] {"a", "z", "ab", "abcdefgh"}) {
            for (int trade = -1; trade < 2; trade++) {
                PollBooks x = new PollBooks();
                x.entry(0, Check.name(name), trade, 600, 1);
                for (int reach : new int[] {6, 0, 30}) {
                    x.reach(reach);
                    CHECK.refused(x, "nobody is " + name, x.who(0), 6);
                    CHECK.refused(x, "nobody is sure", x.sure(0, 0), 6);
                    CHECK.refused(x, "nobody is twice", x.sure(0, 1), 6);
                    CHECK.fine(x, "standing", x.standing(0, 0, 0), 1);
                }
                x.person(Check.name("zzzzzzzz"), 0, 0);
                x.reach(30);
                CHECK.fine(x, "somebody now", x.who(0), 0);
            }
        }
    }

    /** "of several the lesser", "SURE it is, if there are not several". */
    private static void theLesserOfSeveral() {
        for (int persons = 1; persons <= 5; persons++) {
            for (int nearest = 0; nearest < 1 << persons; nearest++) {
                PollBooks x = new PollBooks();
                x.entry(0, Check.name("abc"), -1, 600, 1);
                for (int p = 0; p < persons; p++) {
                    // the others are 3 away, all alike
                    x.person(Check.name((nearest >> p & 1) != 0 ? "abc" : "ab" + (char) ('p' + p)), 0, 0);
                }
                x.entry(0, Check.name("abc"), -1, 600, 1);
                int least = nearest == 0 ? 0 : Integer.numberOfTrailingZeros(nearest);
                int several = nearest == 0 ? persons : Integer.bitCount(nearest);
                for (int e = 0; e < 2; e++) {
                    CHECK.fine(x, "who of " + nearest, x.who(e), least);
                    CHECK.fine(x, "sure of " + nearest, x.sure(e, 0), several == 1 ? 1 : 0);
                    CHECK.fine(x, "twice", x.sure(e, 1), e);
                }
            }
        }
    }

    /** "It is TWICE, if one ahead of it in book 0 is the same PERSON." */
    private static void twiceBehindTheFirst() {
        PollBooks x = new PollBooks();
        x.person(Check.name("smith"), 3, 0);
        x.person(Check.name("wood"), 3, 0);
        String[] names = {"zzzzzzzz", "zzzzzzzz", "smith", "wood", "smyth", "smith", "wood"};
        int[] due = {-1, -1, 0, 0, 1, 1, 1};
        for (String name : names) {
            x.entry(0, Check.name(name), 3, 600, 1);
            x.entry(1, Check.name("smith"), 3, 600, 1);
        }
        for (int e = 0; e < names.length; e++) {
            CHECK.due("twice(" + e + ")", x.sure(e, 1), due[e]);
            CHECK.due("status of it", x.status(), due[e] < 0 ? 6 : 0);
        }
        // by REACH 0 the other spelling is nobody
        x.reach(0);
        CHECK.refused(x, "smyth", x.sure(4, 1), 6);
        CHECK.fine(x, "smith again", x.sure(5, 1), 1);
    }
}
