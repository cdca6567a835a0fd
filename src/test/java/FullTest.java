import java.util.Locale;

/** "At most": the last one that there is room for is taken, has its number and counts; the next has STATUS 4. */
public final class FullTest {
    private static final Check CHECK = new Check();

    public static void main(String[] args) {
        persons();
        theFortiethPersonVotes();
        holdings();
        splits();
        payments();
        tape();
        aTextOf600Bytes();
        texts();
        rules();
        aHundredRules();
        entries();
        aFullBookIsPolled();
        offers();
        grounds();
        members();
        CHECK.end();
    }

    /** "PERSONS, at most 40, numbered as they come". */
    private static void persons() {
        PollBooks x = new PollBooks();
        for (int i = 0; i < 40; i++) {
            CHECK.refused(x, "PERSON " + i + " is not there yet", x.fact(i, 0, 0, 4), 1);
            CHECK.fine(x, "person " + i, x.person(1 + i % 26, i % 20, i % 7), i);
        }
        CHECK.refused(x, "a 41st", x.person(1, 0, 0), 4);
        CHECK.refused(x, "so there is none", x.fact(40, 0, 0, 4), 1);
        for (int i = 0; i < 40; i++) {
            CHECK.fine(x, "trade of " + i, x.fact(i, 0, 0, 4), i % 20);
            CHECK.fine(x, "home of " + i, x.fact(i, i % 7, 0, 5), 1);
        }
    }

    /** PERSON 39 is told, polled, offers and is kept from voting again as PERSON 0 is. */
    private static void theFortiethPersonVotes() {
        for (int person : new int[] {0, 31, 32, 39}) {
            PollBooks x = new PollBooks();
            for (int i = 0; i < 40; i++) {
                x.person((1 + i / 26) * 32L + 1 + i % 26, 0, 0);
            }
            Check.text(x, "a: may day > 0;", 0, 127);
            long name = (1 + person / 26) * 32L + 1 + person % 26;
            CHECK.fine(x, "offer", x.offer(person, 2, 600), 0);
            CHECK.fine(x, "offer", x.offer(person, 4, 600), 1);
            CHECK.fine(x, "offer of another", x.offer((person + 8) % 40, 4, 600), 2);
            CHECK.fine(x, "stands", x.stands(0, 0, 5), 0);
            CHECK.fine(x, "the second is 2", x.stands(1, 0, 5), 2);
            CHECK.fine(x, "another one's is not", x.stands(2, 0, 5), 0);
            CHECK.fine(x, "entry", x.entry(0, name, -1, 600, 8), 0);
            CHECK.fine(x, "who", x.who(0), person);
            CHECK.fine(x, "standing", x.standing(0, 0, 5), 0);
            CHECK.fine(x, "the OFFER is 2 now", x.stands(0, 0, 5), 2);
            CHECK.fine(x, "another one's still not", x.stands(2, 0, 5), 0);
            CHECK.fine(x, "poll", x.poll(3, 0, 5, true), 1);
            CHECK.fine(x, "poll", x.poll(1, 0, 5, true), 0);
            CHECK.fine(x, "poll", x.poll(2, 0, 5, true), 1);
        }
    }

    /** "HOLDINGS, at most 80". */
    private static void holdings() {
        PollBooks x = new PollBooks();
        x.person(1, 0, 0);
        x.person(2, 0, 0);
        for (int i = 0; i < 79; i++) {
            CHECK.fine(x, "hold " + i, x.hold(0, i % 40, 1000, 0, 9999, 0));
        }
        CHECK.fine(x, "land of 79", x.fact(0, 0, 0, 0), 79000);
        CHECK.fine(x, "the 80th", x.hold(1, 39, 1000, 7, 9999, 0));
        CHECK.refused(x, "an 81st", x.hold(1, 39, 1000, 0, 9999, 0), 4);
        CHECK.fine(x, "land of the 80th", x.fact(1, 0, 9, 0), 1000);
        CHECK.fine(x, "plots of the 80th", x.fact(1, 0, 9, 1), 1);
        CHECK.fine(x, "held of the 80th", x.fact(1, 0, 9, 2), 2);
        CHECK.fine(x, "plots of the others", x.fact(0, 0, 0, 1), 79);
        // the others have room still
        CHECK.fine(x, "split", x.split(39, 8, 0));
        CHECK.fine(x, "split of the 80th", x.fact(1, 0, 9, 3), 1);
        CHECK.fine(x, "pay", x.pay(1, 1, 0, true, 0));
    }

    /** "SPLITS, at most 30". */
    private static void splits() {
        PollBooks x = new PollBooks();
        x.person(1, 0, 0);
        x.hold(0, 0, 1, 0, 9999, 0);
        x.hold(0, 39, 1, 0, 9999, 0);
        for (int i = 0; i < 29; i++) {
            CHECK.fine(x, "split " + i, x.split(1 + i, 50, 0));
        }
        CHECK.fine(x, "none of these yet", x.fact(0, 0, 60, 3), 9999);
        CHECK.fine(x, "the 30th", x.split(39, 50, 0));
        CHECK.refused(x, "a 31st", x.split(0, 60, 0), 4);
        CHECK.fine(x, "the 30th counts, the 31st not", x.fact(0, 0, 60, 3), 10);
        CHECK.fine(x, "hold", x.hold(0, 1, 1, 0, 9999, 0));
        CHECK.fine(x, "pay", x.pay(0, 1, 0, true, 0));
    }

    /** "PAYMENTS, at most 60": what is not PROVED takes a place, too. */
    private static void payments() {
        PollBooks x = new PollBooks();
        x.person(1, 0, 0);
        for (int i = 0; i < 59; i++) {
            CHECK.fine(x, "pay " + i, x.pay(0, 1000, 0, i >= 20, 0));
        }
        CHECK.fine(x, "paid of 59", x.fact(0, 0, 0, 6), 39000);
        CHECK.fine(x, "the 60th", x.pay(0, 7, 0, true, 0));
        CHECK.refused(x, "a 61st", x.pay(0, 1, 0, true, 0), 4);
        CHECK.refused(x, "a 61st that is not PROVED", x.pay(0, 1, 0, false, 0), 4);
        CHECK.fine(x, "paid of 60", x.fact(0, 0, 0, 6), 39007);
        CHECK.fine(x, "hold", x.hold(0, 1, 1, 0, 9999, 0));
        CHECK.fine(x, "split", x.split(1, 0, 0));
    }

    /** "NONE if there would be more than 600", and then the tape is as it was. */
    private static void tape() {
        PollBooks x = new PollBooks();
        for (int i = 1; i <= 30; i++) {
            CHECK.due("feed " + i, x.feed(0x20202020, 0x20202020, 0x20202020, 0x20202020, 0x20202020), 20 * i);
        }
        CHECK.due("a 31st feed", x.feed(-1, -1, -1, -1, -1), -1);
        CHECK.due("a 32nd feed", x.feed(-1, -1, -1, -1, -1), -1);
        CHECK.refused(x, "601", x.text(601, 0, 1), 1);
        CHECK.fine(x, "600 blanks, and none but them", x.text(600, 0, 1), 0);
        CHECK.due("the tape is empty", x.feed(0, 0, 0, 0, 0), 20);
        CHECK.fine(x, "of a part", x.text(0, 0, 1), 0);
        CHECK.due("the rest is gone, too", x.feed(0, 0, 0, 0, 0), 20);
        CHECK.refused(x, "with a FAULT", x.text(1, 0, 1), 9);
        CHECK.due("gone, too", x.feed(0, 0, 0, 0, 0), 20);
    }

    /** "of at most 600 bytes": the last of them counts. */
    private static void aTextOf600Bytes() {
        String sum = "a:may 1" + "+1".repeat(293);
        String[] ends = {"=294 ; ", "=294  ;", "=294;\n\n"};
        for (String end : ends) {
            PollBooks x = new PollBooks();
            x.person(1, 0, 0);
            CHECK.due("length", (sum + end).length(), 600);
            CHECK.fine(x, "text of 600", Check.text(x, sum + end, 0, 1), 1);
            CHECK.fine(x, "right", x.right(0, 0, 0, 0), 0);
        }
        PollBooks x = new PollBooks();
        CHECK.refused(x, "a FAULT in the last byte", Check.text(x, sum + "=294; ;", 0, 1), 9);
        CHECK.due("its kind", x.fault(0), 2);
        CHECK.due("its place", x.fault(1), 599);
        PollBooks y = new PollBooks();
        CHECK.refused(y, "600 bytes without an end", Check.text(y, sum + "=294   ", 0, 1), 9);
        CHECK.due("the end", y.fault(1), 600);
        PollBooks z = new PollBooks();
        CHECK.refused(z, "the 600th is no TOKEN", Check.text(z, sum + "=294; ,", 0, 1), 9);
        CHECK.due("kind 1", z.fault(0), 1);
        CHECK.due("at 599", z.fault(1), 599);
    }

    /** "TEXTS, at most 5": one with a FAULT is none, one without RULES is one. */
    private static void texts() {
        PollBooks x = new PollBooks();
        for (int i = 0; i < 5; i++) {
            CHECK.refused(x, "a FAULT", Check.text(x, "a: names 0;", 0, 127), 9);
            CHECK.fine(x, "text " + i, Check.text(x, i == 4 ? "e: names 4;" : "", 0, 127), i == 4 ? 1 : 0);
        }
        CHECK.fine(x, "the fifth counts", x.names(0, 0), 4);
        CHECK.refused(x, "a sixth", x.text(0, 0, 127), 4);
        CHECK.refused(x, "a sixth with RULES", Check.text(x, "f: names 3;", 0, 127), 4);
        CHECK.fine(x, "counts not", x.names(0, 0), 4);
        CHECK.fine(x, "one RULE", x.rules(0, 9999), 1);
        CHECK.due("no FAULT", x.fault(0), 0);
    }

    private static String rule(int i, String does) {
        return String.format(Locale.ROOT, "%c:%s;", 'a' + i, does);
    }

    /** "3 a 21st RULE (at its LABEL)". */
    private static void rules() {
        StringBuilder b = new StringBuilder();
        for (int i = 0; i < 20; i++) {
            b.append(rule(i, i == 19 ? "names 4" : "names 1"));
        }
        PollBooks x = new PollBooks();
        CHECK.fine(x, "twenty", Check.text(x, b.toString(), 0, 1), 20);
        CHECK.fine(x, "the 20th counts", x.names(0, 0), 4);
        CHECK.fine(x, "and is no further", x.struck(0, 0, 19), 0);
        CHECK.refused(x, "no 21st", x.struck(0, 0, 20), 1);
        CHECK.refused(x, "21", Check.text(x, b + " \n u", 0, 1), 9);
        CHECK.due("kind", x.fault(0), 3);
        CHECK.due("at its LABEL", x.fault(1), b.length() + 3);
        CHECK.refused(x, "21, the LABEL there already", Check.text(x, b + "a", 0, 1), 9);
        CHECK.due("the least kind", x.fault(0), 3);
        CHECK.refused(x, "21, and no LABEL", Check.text(x, b + ";", 0, 1), 9);
        CHECK.due("the least kind", x.fault(0), 2);
        CHECK.refused(x, "21, and no TOKEN", Check.text(x, b + "A", 0, 1), 9);
        CHECK.due("the least kind", x.fault(0), 1);
        CHECK.fine(x, "twenty and blanks", Check.text(x, b + " \n ", 0, 1), 20);
        CHECK.fine(x, "forty", x.rules(0, 0), 40);
    }

    /** Five TEXTS of twenty RULES stand one behind the other, numbered 0 to 99. */
    private static void aHundredRules() {
        PollBooks x = new PollBooks();
        x.person(1, 0, 0);
        for (int t = 4; t >= 0; t--) {
            StringBuilder b = new StringBuilder();
            for (int i = 0; i < 20; i++) {
                b.append(rule(i, t == 4 && i == 19 ? "may day > 9" : "may day > 9998"));
            }
            CHECK.fine(x, "text", Check.text(x, b.toString(), t, 127), 20);
        }
        CHECK.fine(x, "rules", x.rules(6, 10), 100);
        CHECK.fine(x, "the last of all", x.why(0, 6, 10, 0), 99);
        CHECK.fine(x, "the first of all", x.why(0, 6, 9999, 0), 0);
        CHECK.fine(x, "struck 99", x.struck(6, 10, 99), 0);
        CHECK.refused(x, "struck 100", x.struck(6, 10, 100), 1);
    }

    /** "at most 30 ENTRIES each, one behind the other". */
    private static void entries() {
        for (int full = 0; full < 3; full++) {
            PollBooks x = new PollBooks();
            for (int i = 0; i < 30; i++) {
                CHECK.fine(x, "entry " + i, x.entry(full, 1, -1, 600, i == 29 ? 8 : 1), i);
            }
            CHECK.refused(x, "a 31st", x.entry(full, 1, -1, 600, 2), 4);
            for (int book = 0; book < 3; book++) {
                if (book != full) {
                    CHECK.fine(x, "the others are empty", x.entry(book, 1, -1, 600, 4), 0);
                }
            }
            int[] due = {29, 0, 0, 1};
            for (int c = 0; c < 4; c++) {
                CHECK.fine(x, "tally of the full BOOK", x.tally(full, c), due[c]);
            }
            CHECK.fine(x, "tally of another", x.tally((full + 1) % 3, 2), 1);
            CHECK.fine(x, "tally of another", x.tally((full + 1) % 3, 0), 0);
            CHECK.fine(x, "join(1)", x.join(1), full == 2 ? 0 : 290 + 4);
            CHECK.fine(x, "join(2)", x.join(2), full == 1 ? 0 : 290 + 4);
        }
    }

    private static void aFullBookIsPolled() {
        PollBooks x = new PollBooks();
        for (int i = 0; i < 30; i++) {
            x.person(1 + i % 26, i / 26, 0);
            for (int book = 0; book < 3; book++) {
                CHECK.fine(x, "entry", x.entry(book, 1 + i % 26, i / 26, 600, book == 0 ? 1 : 2 + i % 2 * 4), i);
            }
        }
        Check.text(x, "a: may day > 0;", 0, 127);
        for (int i = 0; i < 30; i++) {
            CHECK.fine(x, "mate " + i, x.mate(1 + i % 2, i), i);
            CHECK.fine(x, "joined " + i, x.joined(i), 2 + i % 2 * 4);
            CHECK.fine(x, "who " + i, x.who(i), i);
            CHECK.fine(x, "standing " + i, x.standing(i, 0, 5), 0);
        }
        int[] due = {0, 30, 15, 0};
        for (int c = 0; c < 4; c++) {
            CHECK.fine(x, "poll", x.poll(c, 0, 5, false), due[c]);
            CHECK.fine(x, "written", x.written(c, 0), due[c]);
            CHECK.fine(x, "tally of JOINED SETS", x.tally(3, c), due[c]);
        }
        CHECK.fine(x, "join(1)", x.join(1), 120);
    }

    /** "OFFERS, at most 20". */
    private static void offers() {
        PollBooks x = new PollBooks();
        for (int i = 0; i < 21; i++) {
            x.person(1 + i, 0, 0);
        }
        Check.text(x, "a: may day > 0;", 0, 127);
        for (int i = 0; i < 20; i++) {
            CHECK.fine(x, "offer " + i, x.offer(i, i == 19 ? 8 : 1, 600), i);
        }
        CHECK.refused(x, "a 21st", x.offer(20, 4, 600), 4);
        CHECK.refused(x, "so there is none", x.stands(20, 0, 5), 1);
        CHECK.refused(x, "nor a GROUND of it", x.ground(true, 20), 1);
        int[] due = {19, 0, 0, 1};
        for (int c = 0; c < 4; c++) {
            CHECK.fine(x, "poll with OFFERS", x.poll(c, 0, 5, true), due[c]);
            CHECK.fine(x, "poll without", x.poll(c, 0, 5, false), 0);
        }
        CHECK.fine(x, "the 20th stands", x.stands(19, 0, 5), 0);
        CHECK.fine(x, "and is a GROUND", x.ground(true, 19), 0);
        CHECK.fine(x, "written with it", x.written(3, 1), 1);
    }

    /** "GROUNDS, at most 10, numbered as they come"; all ten can be needed. */
    private static void grounds() {
        PollBooks x = new PollBooks();
        for (int i = 0; i < 11; i++) {
            x.entry(0, 1, -1, 600, i == 10 ? 4 : 3);
        }
        for (int i = 0; i < 10; i++) {
            CHECK.refused(x, "no set of it yet", x.written(0, 1 << i), 1);
            CHECK.fine(x, "ground " + i, x.ground(false, i), i);
        }
        CHECK.refused(x, "an 11th", x.ground(false, 10), 4);
        CHECK.fine(x, "written with all", x.written(0, 1023), 0);
        CHECK.refused(x, "written with an 11th", x.written(0, 1024), 1);
        CHECK.fine(x, "with the tenth", x.written(0, 512), 9);
        // ten votes for 0 and 1, one for 2: like ones fall to the lesser, so all ten must go
        CHECK.fine(x, "fewest", x.turns(2, 0), 10);
        CHECK.fine(x, "rivals", x.turns(2, 1), 1);
        CHECK.fine(x, "first", x.turns(2, 2), 1023);
        CHECK.refused(x, "3 has none", x.turns(3, 0), 6);
        CHECK.fine(x, "against of the last two", x.against(8, 9));
        CHECK.refused(x, "not all can be now", x.turns(2, 0), 6);
    }

    /** "MEMBERS, at most 30, numbered as they come". */
    private static void members() {
        PollBooks x = new PollBooks();
        for (int i = 0; i < 30; i++) {
            CHECK.refused(x, "there are fewer", x.draw(i + 1, 0, 1), 6);
            CHECK.fine(x, "member " + i, x.member(i == 29 ? 9 : -1, i % 21), i);
            CHECK.fine(x, "all are drawn", x.draw(i + 1, i + 1, 1), i == 29 ? 9 - 29 : -1 - i);
        }
        CHECK.refused(x, "a 31st", x.member(0, 0), 4);
        CHECK.refused(x, "31 can't be drawn", x.draw(31, 31, 1), 1);
        CHECK.fine(x, "the 30th is drawn", x.bench(29), 29);
        CHECK.refused(x, "no 31st", x.bench(30), 6);
    }
}
