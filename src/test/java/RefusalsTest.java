import java.util.function.Supplier;

/**
 * Which STATUS a call has where several hold (part 6: the first; the promises that name an order of their own), and that
 * a refused call leaves all else as it was.
 */
public final class RefusalsTest {
    private static final Check CHECK = new Check();
    private static final Trial BARE = new Trial(CHECK, Scene::new);
    private static final Trial SOME = new Trial(CHECK, Scene::make);

    public static void main(String[] args) {
        aNewObject();
        statusOfCallsThatHaveNone();
        missingTrays();
        pourInItsOrder();
        fullAndGone();
        texts();
        nobodyOrNoSuch();
        grounds();
        draws();
        coachesInTheirOrder();
        CHECK.end();
    }

    private static Trial full(String name, int many, long... a) {
        Supplier<Scene> maker = () -> {
            Scene s = Scene.make();
            for (int i = 0; i < many; i++) {
                s.ask(name, a);
            }
            return s;
        };
        return new Trial(CHECK, maker);
    }

    /** "Nobody, empty BOOKS; TRAYS are MISSING; an empty tape; AS OF 9,999; STATUS 0." */
    private static void aNewObject() {
        CHECK.due("status() of a new object", new PollBooks().status(), 0);
        for (int t = 0; t < 4; t++) {
            BARE.refused(2, "read", t, 0);
            BARE.refused(2, "write", t, 0, 1);
        }
        String[] ofPersons = {"fact", "right", "why", "voided"};
        for (String name : ofPersons) {
            BARE.refused(1, name, 0, 0, 0, 0);
        }
        BARE.refused(1, "hold", 0, 0, 1, 0, 0, 0);
        BARE.refused(1, "pay", 0, 1, 0, 1, 0);
        BARE.refused(1, "offer", 0, 1, 0);
        BARE.refused(1, "joined", 0);
        BARE.refused(1, "who", 0);
        BARE.refused(1, "sure", 0, 0);
        BARE.refused(1, "mate", 1, 0);
        BARE.refused(1, "standing", 0, 0, 0);
        BARE.refused(1, "stands", 0, 0, 0);
        BARE.refused(1, "ground", 0, 0);
        BARE.refused(1, "ground", 1, 0);
        BARE.refused(1, "against", 0, 1);
        BARE.refused(1, "struck", 0, 0, 0);
        BARE.refused(1, "written", 0, 1);
        BARE.refused(1, "text", 1, 0, 1);
        BARE.refused(6, "bench", 0);
        BARE.refused(6, "draw", 1, 0, 0);
        BARE.refused(6, "coachMany");
        BARE.refused(2, "coaches", 0, 0, 1);
        BARE.refused(6, "turns", 2, 0);
        BARE.refused(6, "turns", 3, 2);
        emptyAnswers();
    }

    private static void emptyAnswers() {
        BARE.answers(0, "text", 0, 0, 1);
        BARE.answers(0, "rules", 0, 0);
        BARE.answers(2, "names", 0, 0);
        BARE.answers(0, "join", 1);
        BARE.answers(0, "join", 2);
        for (int c = 0; c < 4; c++) {
            for (int book = 0; book < 4; book++) {
                BARE.answers(0, "tally", book, c);
            }
            BARE.answers(0, "poll", c, 0, 0, 1);
            BARE.answers(0, "written", c, 0);
        }
        for (int what = 0; what < 3; what++) {
            // the set of none seats the lesser two at once
            BARE.answers(what == 1 ? 1 : 0, "turns", 0, what);
            BARE.answers(what == 1 ? 1 : 0, "turns", 1, what);
        }
        for (int k = 0; k < 2; k++) {
            BARE.answers(k, "seated", k, 0, 0, 0);
            BARE.answers(k, "seated", k, 0, 0, 1);
        }
        CHECK.due("feed() on an empty tape", new PollBooks().feed(0, 0, 0, 0, 0), 20);
        PollBooks x = new PollBooks();
        x.person(1, 0, 0);
        x.hold(0, 0, 5, 0, 9999, 9999);
        CHECK.fine(x, "AS OF 9,999", x.fact(0, 0, 0, 0), 5);
    }

    /** "status(), feed(), fault() have none": STATUS stays that of the latest call that has one. */
    private static void statusOfCallsThatHaveNone() {
        long[][] calls = {{0, 0}, {-1, 1}};
        for (long[] c : calls) {
            Scene s = Scene.make();
            s.ask("rules", c[0], 0);
            for (int what = -1; what < 3; what++) {
                s.ask("fault", what);
                CHECK.due("status() behind fault(" + what + ")", s.status(), c[1]);
            }
            for (int i = 0; i < 30; i++) {
                s.ask("feed", 0, 0, 0, 0, 0);
                CHECK.due("status() behind feed()", s.status(), c[1]);
            }
            CHECK.due("a full tape", s.ask("feed", 0, 0, 0, 0, 0), -1);
            CHECK.due("status() behind a refused feed()", s.status(), c[1]);
            CHECK.due("status() behind status()", s.status(), c[1]);
        }
    }

    /** "2 the TRAY is MISSING", ahead of "3 a place that the TRAY has not", behind "1 .. no such TRAY". */
    private static void missingTrays() {
        for (int place : new int[] {-1, 0, 60}) {
            BARE.refused(2, "read", 3, place);
            BARE.refused(2, "write", 3, place, 1);
            BARE.refused(1, "read", 4, place);
            BARE.refused(1, "write", -1, place, 1);
        }
        // one that has no numbers is not MISSING
        BARE.taken("tray", 0, 0, 0).ask("read", 0, 0);
        SOME.refused(3, "read", 2, 0);
    }

    /** "(1: below 0, too; 2; 8; 3; asked in this order)". */
    private static void pourInItsOrder() {
        Trial trial = new Trial(CHECK, () -> {
            Scene s = new Scene();
            s.ask("tray", 0, 0, 7);
            s.ask("tray", 1, 1, 7);
            s.ask("write", 0, 6, 66);
            s.ask("write", 1, 6, 666);
            return s;
        });
        for (int bad : new int[] {-1, 4, Integer.MIN_VALUE, Integer.MAX_VALUE}) {
            trial.refused(1, "pour", bad, 99, 2, 99, 99);
            trial.refused(1, "pour", 2, 99, bad, 99, 99);
        }
        for (int below : new int[] {-1, Integer.MIN_VALUE}) {
            trial.refused(1, "pour", 2, below, 3, 0, 1);
            trial.refused(1, "pour", 2, 0, 3, below, 1);
            trial.refused(1, "pour", 2, 0, 3, 0, below);
            trial.refused(1, "pour", 0, below, 1, 99, 99);
            trial.refused(1, "pour", 0, 99, 1, below, 99);
            trial.refused(1, "pour", 0, 99, 1, 99, below);
            trial.refused(1, "pour", 0, below, 0, 99, 99);
        }
        trial.refused(2, "pour", 0, 99, 2, 99, 99);
        trial.refused(2, "pour", 3, 99, 0, 99, 99);
        trial.refused(2, "pour", 2, 0, 2, 0, 0);
        trial.refused(8, "pour", 0, 99, 1, 0, 1);
        trial.refused(8, "pour", 1, 0, 0, 99, 1);
        trial.refused(8, "pour", 0, 0, 1, 0, 99);
        trial.refused(8, "pour", 0, 0, 1, 0, 0);
        trial.refused(3, "pour", 0, 7, 0, 0, 1);
        trial.refused(3, "pour", 0, 0, 0, 7, 1);
        trial.refused(3, "pour", 0, 0, 0, 0, 8);
        trial.refused(3, "pour", 0, Integer.MAX_VALUE, 0, 0, Integer.MAX_VALUE);
        trial.refused(3, "pour", 0, 0, 0, Integer.MAX_VALUE, 1);
        trial.refused(3, "pour", 0, 0, 0, Integer.MAX_VALUE, 0);
    }

    /** "(1; 4; 5)": what can't be, then one too many, then a DAY that is gone. */
    private static void fullAndGone() {
        long[] hold = {0, 3, 7, 20, 160, 60};
        Trial holdings = full("hold", 76, hold);
        holdings.refused(4, "hold", hold);
        holdings.refused(4, "hold", 0, 3, 7, 20, 160, 59);
        holdings.refused(1, "hold", 0, 3, 7, 20, 19, 59);
        holdings.refused(1, "hold", Scene.PERSONS, 3, 7, 20, 160, 60);
        holdings.refused(5, "split", 3, 20, 59);
        holdings.refused(5, "pay", 0, 7, 20, 1, 59);
        Trial splits = full("split", 29, 3, 20, 60);
        splits.refused(4, "split", 3, 20, 60);
        splits.refused(4, "split", 3, 20, 59);
        splits.refused(1, "split", 40, 20, 59);
        splits.refused(5, "hold", 0, 3, 7, 20, 160, 59);
        splits.refused(5, "pay", 0, 7, 20, 1, 59);
        Trial payments = full("pay", 57, 0, 7, 20, 0, 60);
        payments.refused(4, "pay", 0, 7, 20, 1, 60);
        payments.refused(4, "pay", 0, 7, 20, 1, 59);
        payments.refused(1, "pay", 0, 1001, 20, 1, 59);
        payments.refused(5, "hold", 0, 3, 7, 20, 160, 59);
        payments.refused(5, "split", 3, 20, 59);
        SOME.refused(1, "hold", 0, 40, 7, 20, 160, 0);
        SOME.refused(1, "split", -1, 20, 0);
        SOME.refused(1, "pay", -1, 7, 20, 1, 0);
        Trial persons = full("person", 40 - Scene.PERSONS, 1, 0, 0);
        persons.refused(4, "person", 1, 0, 0);
        persons.refused(1, "person", 0, 0, 0);
        persons.refused(1, "person", 1, 20, 0);
        persons.refused(1, "person", 1, 0, 7);
        Trial members = full("member", 24, 0, 0);
        members.refused(4, "member", 0, 0);
        members.refused(1, "member", 10, 0);
        members.refused(1, "member", 0, 21);
        Trial offers = full("offer", 20 - Scene.OFFERS, 0, 1, 0);
        offers.refused(4, "offer", 0, 1, 0);
        offers.refused(1, "offer", Scene.PERSONS, 1, 0);
        offers.refused(1, "offer", 0, 0, 0);
        offers.refused(1, "offer", 0, 1, 1440);
        int[] there = {Scene.ENTRIES, 4, 2};
        for (int book = 0; book < 3; book++) {
            Trial entries = full("entry", 30 - there[book], book, 1, 0, 0, 1);
            entries.refused(4, "entry", book, 1, 0, 0, 1);
            entries.refused(1, "entry", book, 0, 0, 0, 1);
            entries.refused(1, "entry", book, 1, 20, 0, 1);
            entries.refused(1, "entry", book, 1, 0, 1440, 1);
            entries.refused(1, "entry", book, 1, 0, 0, 16);
        }
    }

    /** "(1: n below 0, or more than the tape has, too; 4; 9: the tape is empty then, too)". */
    private static void texts() {
        // a text with a FAULT is not looked at where something can't be, or one is too many
        Supplier<Scene> maker = () -> {
            Scene s = Scene.make();
            s.feedAll(";;;;");
            return s;
        };
        Trial faulty = new Trial(CHECK, maker);
        faulty.refused(1, "text", -1, 0, 1);
        faulty.refused(1, "text", 61, 0, 1);
        faulty.refused(1, "text", 60, -1, 1);
        faulty.refused(1, "text", 60, 10000, 1);
        faulty.refused(1, "text", 60, 0, 0);
        faulty.refused(1, "text", 60, 0, 128);
        Supplier<Scene> five = () -> {
            Scene s = Scene.make();
            for (int i = 0; i < 3; i++) {
                s.ask("text", 0, 9000, 1);
            }
            s.feedAll(";;;;");
            return s;
        };
        Trial full = new Trial(CHECK, five);
        full.refused(4, "text", 1, 0, 1);
        full.refused(4, "text", 0, 0, 1);
        full.refused(1, "text", 21, 0, 1);
        full.refused(1, "text", 20, 0, 128);
        full.refused(1, "text", 20, 10000, 1);
        aFaultChangesTheTapeAlone();
    }

    private static void aFaultChangesTheTapeAlone() {
        // with the same FAULT again and the same tape again all is as it was
        Scene s = Scene.make();
        CHECK.due("text of a part", s.ask("text", 5, 0, 127), -1);
        CHECK.due("its STATUS", s.status(), 9);
        CHECK.due("its FAULT", s.ask("fault", 0), 2);
        CHECK.due("its place", s.ask("fault", 1), 3);
        CHECK.due("the tape is empty", s.ask("text", 1, 0, 127), -1);
        CHECK.due("so n is more than it has", s.status(), 1);
        CHECK.due("again with a FAULT", s.enact("a: names 7;", 0, 1), -1);
        s.feedAll("z: names 4;         y: names 3;         ");
        String unlike = Scene.unlike(Scene.make().all(), s.all());
        CHECK.due("a FAULT changes nothing else: " + unlike, unlike.isEmpty(), true);
    }

    /** "6 there is none such" comes behind "1 .. no such PERSON, ENTRY". */
    private static void nobodyOrNoSuch() {
        SOME.refused(6, "who", 3);
        SOME.refused(1, "who", Scene.ENTRIES);
        SOME.refused(6, "sure", 3, 1);
        SOME.refused(1, "sure", 3, 2);
        SOME.refused(1, "sure", 3, -1);
        SOME.refused(6, "mate", 1, 2);
        SOME.refused(1, "mate", 0, 2);
        SOME.refused(1, "mate", 3, 2);
        Trial noMay = new Trial(CHECK, () -> {
            Scene s = new Scene();
            s.ask("person", 1, 0, 0);
            return s;
        });
        noMay.refused(6, "why", 0, 0, 0, 0);
        noMay.refused(1, "why", 1, 0, 0, 0);
        noMay.refused(1, "why", 0, 7, 0, 0);
        noMay.refused(1, "why", 0, 0, 10000, 0);
        noMay.refused(1, "why", 0, 0, 0, 1440);
        noMay.answers(2, "right", 0, 0, 0, 0);
        noMay.answers(0, "voided", 0, 0, 0, 0);
    }

    /** "(1; 4; 7: there is one like it)", "(1: like ones, too; 7)". */
    private static void grounds() {
        Supplier<Scene> ten = () -> {
            Scene s = Scene.make();
            s.ask("ground", 0, 0);
            s.ask("ground", 0, 3);
            s.ask("ground", 0, 5);
            s.ask("ground", 1, 0);
            s.ask("ground", 1, 2);
            s.ask("offer", 0, 1, 0);
            s.ask("ground", 1, 3);
            s.ask("offer", 0, 2, 0);
            return s;
        };
        Trial full = new Trial(CHECK, ten);
        full.refused(4, "ground", 1, 4);
        full.refused(4, "ground", 0, 1);
        full.refused(4, "ground", 1, 1);
        full.refused(1, "ground", 0, Scene.ENTRIES);
        full.refused(1, "ground", 1, 5);
        full.answers(1, "against", 9, 8);
        full.refused(1, "against", 9, 10);
        full.refused(1, "against", 10, 10);
        SOME.refused(7, "ground", 0, 2);
        SOME.refused(7, "ground", 1, 1);
        // an OFFER of the number of an ENTRY that is one is none like it
        SOME.answers(Scene.GROUNDS, "ground", 1, 2);
        SOME.answers(Scene.GROUNDS, "ground", 0, 3);
    }

    /** "(1; 6: there are fewer)". */
    private static void draws() {
        SOME.refused(6, "draw", 6, 6, 0);
        SOME.refused(1, "draw", 6, 7, 0);
        SOME.refused(1, "draw", 6, -1, 0);
        SOME.refused(1, "draw", 6, 6, -1);
        SOME.refused(1, "draw", 0, 0, 0);
        SOME.refused(1, "draw", 31, 31, 0);
        SOME.refused(6, "draw", 30, 30, 0);
        BARE.refused(6, "draw", 1, 1, 0);
        BARE.refused(1, "draw", 1, 2, 0);
    }

    /** "(1; 2; 3; 1: a number of the TRAY; asked in this order)". */
    private static void coachesInTheirOrder() {
        Trial trial = new Trial(CHECK, () -> {
            Scene s = new Scene();
            s.ask("tray", 0, 1, 6);
            s.ask("write", 0, 0, 101);
            s.ask("tray", 1, 1, 7);
            s.ask("write", 1, 3, 101);
            s.ask("tray", 2, 1, 7);
            s.ask("write", 2, 6, -1);
            return s;
        });
        for (int tray = 0; tray < 4; tray++) {
            trial.refused(1, "coaches", 7, tray, 5);
            trial.refused(1, "coaches", -1, tray, 5);
            trial.refused(1, "coaches", 0, tray, 0);
            trial.refused(1, "coaches", 0, tray, 21);
        }
        trial.refused(2, "coaches", 0, 3, 5);
        trial.refused(3, "coaches", 0, 0, 5);
        trial.refused(1, "coaches", 0, 1, 5);
        trial.refused(1, "coaches", 0, 2, 5);
        Scene s = Scene.make();
        long before = s.ask("coachMany");
        s.ask("write", 0, 6, 101);
        CHECK.due("a number that can't be", s.ask("coaches", 0, 0, 5), -1);
        CHECK.due("its STATUS", s.status(), 1);
        CHECK.due("coachMany() stays", s.ask("coachMany"), before);
    }
}
