/** The bounds that part 4 of the document names: STANDING, OFFERS, POLL, SEATED, GROUNDS, TURNS. */
public final class PollBoundsTest {
    private static final Check CHECK = new Check();

    public static void main(String[] args) {
        theFirstThatHolds();
        anOfferStandsLikewise();
        offersBehindThoseThatAreGood();
        moreThanNames();
        aSetOfNone();
        seatedOfLikeOnes();
        offersInThePoll();
        groundsOfBoth();
        writtenOfEachSet();
        turnsWithoutGrounds();
        turnsByFewest();
        cannotBothBe();
        CHECK.end();
    }

    /** A TEXT by which, at MINUTE 100 alone, these hold: 1 closed, 2 a bar, 4 no may, 8 void. */
    private static String law(int mix) {
        return ((mix & 1) != 0 ? "h: hours 0 to 99;" : "")
            + ((mix & 2) != 0 ? "b: bar minute = 100;" : "")
            + ((mix & 4) != 0 ? "m: may minute < 100;" : "m: may minute < 101;")
            + ((mix & 8) != 0 ? "v: void minute = 100;" : "")
            + "n: names 1;";
    }

    private static int due(int mix, int set) {
        return (mix & 1) != 0 ? 3 : (mix & 2) != 0 ? 5 : (mix & 4) != 0 ? 4 : (mix & 8) != 0 ? 6 : set == 3 ? 7 : 0;
    }

    /** "is the first of these that holds", for every mixture of them. */
    private static void theFirstThatHolds() {
        for (int mix = 0; mix < 16; mix++) {
            for (int set : new int[] {1, 3}) {
                PollBooks x = new PollBooks();
                x.person(1, 0, 0);
                x.entry(0, 1, 0, 100, set);
                x.entry(0, 1, 0, 100, set);
                x.entry(0, Check.name("zzzzzzzz"), 0, 100, set);
                x.entry(0, Check.name("zzzzzzzz"), 0, 50, 1);
                Check.text(x, law(mix), 0, 1);
                CHECK.fine(x, "standing of " + mix, x.standing(0, 0, 0), due(mix, set));
                CHECK.fine(x, "TWICE goes ahead of " + mix, x.standing(1, 0, 0), 2);
                CHECK.fine(x, "nobody goes ahead of " + mix, x.standing(2, 0, 0), 1);
                CHECK.fine(x, "nobody is not TWICE", x.standing(3, 0, 0), 1);
                CHECK.fine(x, "elsewhere nobody may", x.standing(0, 1, 0), 4);
                CHECK.fine(x, "poll", x.poll(0, 0, 0, false), due(mix, set) == 0 ? 1 : 0);
            }
        }
    }

    /** "An OFFER STANDS likewise by its PERSON, MINUTE and SET". */
    private static void anOfferStandsLikewise() {
        for (int mix = 0; mix < 16; mix++) {
            for (int set : new int[] {1, 3}) {
                for (int ahead = 0; ahead < 3; ahead++) {
                    PollBooks x = new PollBooks();
                    x.person(1, 0, 0);
                    x.person(26, 0, 0);
                    Check.text(x, law(mix), 0, 1);
                    if (ahead == 1) {
                        x.entry(0, 1, 0, 50, 1);
                    } else if (ahead == 2) {
                        x.offer(0, 1, 50);
                    }
                    int number = x.offer(0, set, 100);
                    CHECK.fine(x, "stands with " + mix + " behind " + ahead, x.stands(number, 0, 0), ahead > 0 ? 2 : due(mix, set));
                    // one that is GOOD and stands behind takes nothing from those ahead
                    x.offer(0, 1, 50);
                    CHECK.fine(x, "still", x.stands(number, 0, 0), ahead > 0 ? 2 : due(mix, set));
                }
            }
        }
    }

    /** "is 2 if a GOOD ENTRY is that PERSON, or an OFFER ahead of it that is GOOD": those that are not GOOD are nothing. */
    private static void offersBehindThoseThatAreGood() {
        for (int mix = 1; mix < 16; mix++) {
            PollBooks x = new PollBooks();
            x.person(1, 0, 0);
            x.person(26, 9, 0);
            Check.text(x, law(mix), 0, 1);
            x.entry(0, 1, 0, 100, 1);
            x.offer(0, 1, 100);
            x.offer(0, 2, 50);
            x.offer(0, 4, 50);
            x.offer(1, 2, 50);
            CHECK.fine(x, "the ENTRY is not GOOD", x.standing(0, 0, 0), due(mix, 1));
            CHECK.fine(x, "nor this", x.stands(0, 0, 0), due(mix, 1));
            CHECK.fine(x, "this is", x.stands(1, 0, 0), 0);
            CHECK.fine(x, "so this is 2", x.stands(2, 0, 0), 2);
            CHECK.fine(x, "another PERSON's is not", x.stands(3, 0, 0), 0);
            int[] polls = {0, 2, 0, 0};
            for (int c = 0; c < 4; c++) {
                CHECK.fine(x, "poll", x.poll(c, 0, 0, true), polls[c]);
            }
        }
        // an ENTRY that stands behind all OFFERS in time, and one that is TWICE
        PollBooks x = new PollBooks();
        x.person(1, 0, 0);
        Check.text(x, "a: may 1 = 1; b: bar minute = 100;", 0, 1);
        x.offer(0, 1, 5);
        x.entry(0, 1, 0, 100, 1);
        x.entry(0, 1, 0, 900, 1);
        CHECK.fine(x, "the first is barred", x.standing(0, 0, 0), 5);
        CHECK.fine(x, "the second is TWICE all the same", x.standing(1, 0, 0), 2);
        CHECK.fine(x, "so no ENTRY is GOOD", x.stands(0, 0, 0), 0);
    }

    /** "7 its JOINED SET has more CANDIDATES than NAMES": as many is fine, one more is not. */
    private static void moreThanNames() {
        for (int names = 0; names <= 4; names++) {
            PollBooks x = new PollBooks();
            // NAMES are 2 where no RULE tells any
            Check.text(x, "a: may 1 = 1;" + (names == 0 ? "" : "b: names " + names + ";"), 0, 1);
            for (int set = 1; set <= 15; set++) {
                x.person(set, 0, 0);
                x.entry(0, set, 0, 600, set);
                x.person(32 * set + 26, 0, 0);
                x.offer(2 * set - 1, set, 600);
            }
            x.reach(0);
            int most = names == 0 ? 2 : names;
            for (int set = 1; set <= 15; set++) {
                int due = Integer.bitCount(set) > most ? 7 : 0;
                CHECK.fine(x, "standing of " + set + " by " + most, x.standing(set - 1, 0, 0), due);
                CHECK.fine(x, "stands of " + set + " by " + most, x.stands(set - 1, 0, 0), due);
            }
        }
    }

    /** "or none": an ENTRY of three BOOKS that are of no mind. */
    private static void aSetOfNone() {
        PollBooks x = new PollBooks();
        x.person(1, 0, 0);
        Check.text(x, "a: may 1 = 1; b: names 4;", 0, 1);
        x.entry(0, 1, 0, 600, 1);
        x.entry(1, 1, 0, 600, 2);
        CHECK.fine(x, "of two as book 0 says", x.standing(0, 0, 0), 0);
        x.entry(2, 1, 0, 600, 12);
        CHECK.fine(x, "joined", x.joined(0), 0);
        CHECK.fine(x, "none", x.standing(0, 0, 0), 7);
        // not GOOD, so the PERSON's OFFER is
        x.offer(0, 15, 600);
        CHECK.fine(x, "the OFFER", x.stands(0, 0, 0), 0);
        for (int c = 0; c < 4; c++) {
            CHECK.fine(x, "written", x.written(c, 0), 0);
        }
        CHECK.fine(x, "taken off", x.ground(false, 0), 0);
        for (int c = 0; c < 4; c++) {
            CHECK.fine(x, "nothing is less than that", x.written(c, 1), 0);
        }
    }

    private static int seat(int[] votes, int k) {
        int[] order = {0, 1, 2, 3};
        for (int i = 0; i < 4; i++) {
            for (int j = 0; j < 3; j++) {
                if (votes[order[j]] < votes[order[j + 1]]) {
                    int kept = order[j];
                    order[j] = order[j + 1];
                    order[j + 1] = kept;
                }
            }
        }
        return order[k];
    }

    /** "SEATED are the two CANDIDATES with most, of like ones the lesser", for all votes of 0 to 2. */
    private static void seatedOfLikeOnes() {
        for (int mix = 0; mix < 81; mix++) {
            int[] votes = {mix % 3, mix / 3 % 3, mix / 9 % 3, mix / 27};
            PollBooks x = new PollBooks();
            Check.text(x, "a: may 1 = 1;", 0, 1);
            x.reach(0);
            int person = 0;
            for (int c = 3; c >= 0; c--) {
                for (int v = 0; v < votes[c]; v++) {
                    x.person(1 + person, 0, 0);
                    x.entry(0, 1 + person, 0, 600, 1 << c);
                    person++;
                }
            }
            for (int c = 0; c < 4; c++) {
                CHECK.fine(x, "poll", x.poll(c, 0, 0, false), votes[c]);
                boolean in = seat(votes, 0) == c || seat(votes, 1) == c;
                if (in) {
                    CHECK.fine(x, "SEATED as WRITTEN", x.turns(c, 0), 0);
                } else {
                    CHECK.refused(x, "not SEATED as WRITTEN", x.turns(c, 0), 6);
                }
            }
            for (int k = 0; k < 2; k++) {
                CHECK.fine(x, "seated of " + mix, x.seated(k, 0, 0, false), seat(votes, k));
                CHECK.fine(x, "seated of " + mix + " with none", x.seated(k, 0, 0, true), seat(votes, k));
                // where nobody may vote all have none
                CHECK.fine(x, "seated elsewhere", x.seated(k, 1, 0, false), k);
            }
        }
    }

    /** "and, with OFFERS, GOOD ones of these, too". */
    private static void offersInThePoll() {
        PollBooks x = new PollBooks();
        Check.text(x, "a: may 1 = 1; b: bar minute = 7;", 0, 1);
        for (int i = 0; i < 5; i++) {
            x.person(1 + i, i, 0);
        }
        x.reach(0);
        x.entry(0, 1, 0, 600, 1);
        x.offer(0, 8, 600);
        x.offer(1, 8, 7);
        x.offer(1, 8, 600);
        x.offer(2, 8 + 4, 600);
        x.offer(3, 4 + 2 + 1, 600);
        int[] without = {1, 0, 0, 0};
        int[] with = {1, 0, 1, 2};
        for (int c = 0; c < 4; c++) {
            CHECK.fine(x, "without", x.poll(c, 0, 0, false), without[c]);
            CHECK.fine(x, "with", x.poll(c, 0, 0, true), with[c]);
        }
        CHECK.fine(x, "seated without", x.seated(0, 0, 0, false), 0);
        CHECK.fine(x, "seated without", x.seated(1, 0, 0, false), 1);
        CHECK.fine(x, "seated with", x.seated(0, 0, 0, true), 3);
        CHECK.fine(x, "seated with", x.seated(1, 0, 0, true), 0);
    }

    // ---- GROUNDS

    private static PollBooks votes(int... sets) {
        PollBooks x = new PollBooks();
        x.person(1, 0, 0);
        for (int set : sets) {
            x.entry(0, 1, 0, 600, set);
        }
        return x;
    }

    /** "that an ENTRY of book 0 is taken off, or an OFFER put on": those of the other BOOKS are none. */
    private static void groundsOfBoth() {
        PollBooks x = votes(1, 2);
        CHECK.refused(x, "no OFFER yet", x.ground(true, 0), 1);
        x.entry(1, 1, 0, 600, 1);
        x.entry(1, 1, 0, 600, 2);
        x.entry(1, 1, 0, 600, 1);
        CHECK.refused(x, "a third of BOOK 1", x.ground(false, 2), 1);
        CHECK.fine(x, "the last", x.ground(false, 1), 0);
        x.offer(0, 4, 0);
        x.offer(0, 4, 0);
        CHECK.fine(x, "the last OFFER", x.ground(true, 1), 1);
        CHECK.refused(x, "one more", x.ground(true, 2), 1);
        CHECK.fine(x, "an OFFER of a number that is an ENTRY's", x.ground(true, 0), 2);
        CHECK.fine(x, "and the ENTRY", x.ground(false, 0), 3);
        for (int which = 0; which < 2; which++) {
            CHECK.refused(x, "there is one like it", x.ground(false, which), 7);
            CHECK.refused(x, "there is one like it", x.ground(true, which), 7);
        }
        CHECK.fine(x, "refused ones have no number", x.written(2, 15), 2);
        CHECK.refused(x, "nor a place in a set", x.written(2, 16), 1);
    }

    /** "With a set of GROUNDS: less those taken off, and the OFFERS' SETS put on, each once." */
    private static void writtenOfEachSet() {
        int[] sets = {1, 3, 7, 15, 8};
        PollBooks x = votes(sets);
        int[] offered = {8, 12, 2};
        for (int set : offered) {
            x.offer(0, set, 0);
        }
        for (int i = 0; i < 8; i++) {
            CHECK.fine(x, "ground", i % 2 == 0 || i > 5 ? x.ground(false, i < 6 ? i / 2 : i - 3) : x.ground(true, i / 2), i);
        }
        int[] change = {-1, 8, -3, 12, -7, 2, -15, -8};
        for (int set = 0; set < 256; set++) {
            int c = set & 3;
            int want = c == 0 ? 4 : c == 1 ? 3 : c == 2 ? 2 : 2;
            for (int g = 0; g < 8; g++) {
                if ((set >> g & 1) != 0) {
                    want += change[g] > 0 ? change[g] >> c & 1 : -(-change[g] >> c & 1);
                }
            }
            CHECK.due("written(" + c + ", " + set + ")", x.written(c, set), want);
        }
    }

    /** The set of none is a set: "the FEWEST" may be 0, of one set, which is 0. */
    private static void turnsWithoutGrounds() {
        PollBooks x = votes(4, 4, 8);
        int[] seated = {-1, -1, 0, 0};
        for (int c = 0; c < 4; c++) {
            for (int what = 0; what < 3; what++) {
                if (seated[c] == 0) {
                    CHECK.fine(x, "turns(" + c + ", " + what + ")", x.turns(c, what), what == 1 ? 1 : 0);
                } else {
                    CHECK.refused(x, "turns(" + c + ", " + what + ")", x.turns(c, what), 6);
                }
            }
        }
        CHECK.refused(x, "a set of none there is, of one not", x.written(0, 1), 1);
    }

    private static void turn(PollBooks x, int candidate, int fewest, int rivals, int first) {
        CHECK.fine(x, "fewest for " + candidate, x.turns(candidate, 0), fewest);
        CHECK.fine(x, "rivals for " + candidate, x.turns(candidate, 1), rivals);
        CHECK.fine(x, "first for " + candidate, x.turns(candidate, 2), first);
    }

    /** "the FEWEST; RIVALS: how many sets of so many; the first: the least set". */
    private static void turnsByFewest() {
        for (int more = 1; more <= 9; more++) {
            // 0 and 1 have so many votes, 2 has one: of like ones the lesser stay, so one more than the difference must go
            int[] sets = new int[more + 1];
            for (int i = 0; i < more; i++) {
                sets[i] = 3;
            }
            sets[more] = 4;
            PollBooks x = votes(sets);
            for (int i = 0; i < more; i++) {
                CHECK.fine(x, "ground", x.ground(false, i), i);
            }
            turn(x, 0, 0, 1, 0);
            turn(x, 1, 0, 1, 0);
            turn(x, 2, more, 1, (1 << more) - 1);
            // the vote itself taken off helps nobody, and its GROUND is in no least set
            CHECK.fine(x, "ground", x.ground(false, more), more);
            turn(x, 2, more, 1, (1 << more) - 1);
            CHECK.refused(x, "3 has none", x.turns(3, 2), 6);
        }
        PollBooks x = votes(1, 2, 2);
        for (int i = 0; i < 10; i++) {
            x.offer(0, 8, 0);
            CHECK.fine(x, "ground", x.ground(true, i), i);
        }
        // one more than 0 has: any two of ten
        turn(x, 3, 2, 45, 3);
        for (int i = 1; i < 10; i++) {
            x.against(0, i);
        }
        turn(x, 3, 2, 36, 6);
        for (int i = 2; i < 10; i++) {
            x.against(i, 1);
        }
        turn(x, 3, 2, 28, 12);
    }

    /** "if no two of it cannot both be": one alone of two can be, and told in either order it is the same. */
    private static void cannotBothBe() {
        for (int a = 0; a < 3; a++) {
            for (int b = 0; b < 3; b++) {
                PollBooks x = votes(1, 1, 1, 2, 2, 2, 4);
                for (int i = 0; i < 3; i++) {
                    x.ground(false, i);
                }
                // 2 needs all three of 0's votes off
                turn(x, 2, 3, 1, 7);
                if (a == b) {
                    CHECK.refused(x, "like ones", x.against(a, b), 1);
                    turn(x, 2, 3, 1, 7);
                } else {
                    CHECK.fine(x, "against", x.against(a, b));
                    CHECK.refused(x, "so already", x.against(a, b), 7);
                    CHECK.refused(x, "so already, told the other way", x.against(b, a), 7);
                    CHECK.refused(x, "not all three now", x.turns(2, 0), 6);
                    CHECK.fine(x, "written asks not whether they can be", x.written(0, 7), 0);
                }
            }
        }
        PollBooks x = votes(2, 4, 4);
        x.offer(0, 8, 0);
        x.offer(0, 8, 0);
        x.ground(true, 0);
        x.ground(true, 1);
        x.ground(false, 0);
        CHECK.fine(x, "against", x.against(0, 1));
        // two votes would do, or one with that of 1 off
        turn(x, 3, 2, 2, 5);
        CHECK.fine(x, "against", x.against(2, 0));
        turn(x, 3, 2, 1, 6);
        CHECK.fine(x, "against", x.against(1, 2));
        CHECK.refused(x, "no two can be", x.turns(3, 0), 6);
    }
}
