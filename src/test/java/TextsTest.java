/** Promises 14 to 22: the tape, TEXTS and their FAULTS, what their RULES say. */
public final class TextsTest {
    private static final Check CHECK = new Check();

    public static void main(String[] args) {
        tape();
        textRefuses();
        faultsAlongTheText();
        textsThatCanBe();
        labels();
        faultIsOfTheLatestText();
        twentyRules();
        fiveTexts();
        rulesByDaysAndPlaces();
        strikes();
        hours();
        barsAndMays();
        unless();
        voids();
        names();
        sums();
        tests();
        variables();
        CHECK.end();
    }

    private static void tape() {
        PollBooks x = new PollBooks();
        for (int i = 1; i <= 30; i++) {
            CHECK.due("feed", x.feed(0x20202020, 0x20202020, 0x20202020, 0x20202020, 0x20202020), 20 * i);
        }
        CHECK.due("feed beyond 600", x.feed(0, 0, 0, 0, 0), -1);
        CHECK.fine(x, "600 blanks, none of them 0", x.text(600, 0, 1), 0);
        CHECK.due("feed on an empty tape", x.feed(0x613A6261, 0x72206461, 0x793C393B, 0, -1), 20);
        CHECK.fine(x, "the highest byte first", x.text(12, 0, 1), 1);
        CHECK.refused(x, "the rest of the tape is gone", x.text(1, 0, 1), 1);
    }

    private static void textRefuses() {
        PollBooks x = new PollBooks();
        x.feed(0x20202020, 0x20202020, 0x20202020, 0x20202020, 0x20202020);
        CHECK.refused(x, "n -1", x.text(-1, 0, 1), 1);
        CHECK.refused(x, "n 21", x.text(21, 0, 1), 1);
        CHECK.refused(x, "day -1", x.text(20, -1, 1), 1);
        CHECK.refused(x, "day 10,000", x.text(20, 10000, 1), 1);
        CHECK.refused(x, "no place", x.text(20, 0, 0), 1);
        CHECK.refused(x, "places 128", x.text(20, 0, 128), 1);
        CHECK.refused(x, "places -1", x.text(20, 0, -1), 1);
        CHECK.due("the tape is as it was", x.feed(0, 0, 0, 0, 0), 40);
        CHECK.fine(x, "text", x.text(20, 9999, 127), 0);
    }

    /** A text with a FAULT, of a kind at a place. */
    private static void bad(String text, int kind, int place) {
        PollBooks x = new PollBooks();
        int length = Check.onTape(x, text);
        CHECK.refused(x, text, x.text(length, 0, 127), 9);
        CHECK.due("the FAULT of " + text, x.fault(0), kind);
        CHECK.due("the place in " + text, x.fault(1), place);
        CHECK.due("no RULE of " + text, x.rules(0, 0), 0);
        CHECK.due("an empty tape behind " + text, x.feed(0, 0, 0, 0, 0), 20);
    }

    private static void good(String text, int rules) {
        PollBooks x = new PollBooks();
        int length = Check.onTape(x, text);
        CHECK.fine(x, text, x.text(length, 0, 127), rules);
        CHECK.due("no FAULT of " + text, x.fault(0), 0);
        CHECK.due("no place in " + text, x.fault(1), -1);
    }

    private static void faultsAlongTheText() {
        bad(";".repeat(600), 2, 0);
        bad("a: may " + "(".repeat(593), 5, 13);
        bad("a: may 1" + "+1".repeat(296), 2, 600);
        bad("A: may day > 1;", 1, 0);
        bad("a: may day > 1,", 1, 14);
        bad("a\t: may day > 1;", 1, 1);
        bad("a: may day > 1\0;", 1, 14);
        bad("a: may day > \377;", 1, 13);
        bad("a: may day / 2 > 1;", 1, 11);
        bad("a: may day > 000001;", 1, 13);
        bad("a: may day > 1; 123456", 1, 16);
        bad("a: names 123456;", 1, 9);
        bad("a: hours 5 to 1234567;", 1, 14);
        bad("123456", 1, 0);
        bad("12345", 2, 0);
        bad(";", 2, 0);
        bad("a", 2, 1);
        bad("a  \n", 2, 4);
        bad("a:", 2, 2);
        bad("a: a", 2, 3);
        bad("a: strikes b: names 1;", 2, 3);
        bad("a: may", 2, 6);
        bad("a: may day", 2, 10);
        bad("a: may day >", 2, 12);
        bad("a: may day > 1", 2, 14);
        bad("a: may day > 1 and;", 2, 18);
        bad("a: may day > 1 or or", 2, 18);
        bad("a: may not not day > 1;", 2, 11);
        bad("a: may (day > 1);", 2, 12);
        bad("a: may (day) > 1;)", 2, 17);
        bad("a: may ((day) > 1;", 2, 14);
        bad("a: may () > 1;", 2, 8);
        bad("a: may day + > 1;", 2, 13);
        bad("a: may - day > 1;", 2, 7);
        bad("a: may day day > 1;", 2, 11);
        bad("a: may day > 1 > 2;", 2, 15);
        bad("a: may day >= 1;", 2, 12);
        bad("a: may day > 1 unless;", 2, 21);
        bad("a: may day > 1 unless day > 2 unless day > 3;", 2, 30);
        bad("a: may yes > 1;", 2, 7);
        bad("a: may day > 1 bar day > 1;", 2, 15);
        bad("a: names day;", 2, 9);
        bad("a: names 1 2;", 2, 11);
        bad("a: hours 1;", 2, 10);
        bad("a: hours 1 2;", 2, 11);
        bad("a: hours 1 to day;", 2, 14);
        bad("a strikes : names 1;", 2, 10);
        bad("a strikes b strikes c: names 1;", 2, 12);
        bad("a strikes 5: names 1;", 2, 10);
        bad("a b: names 1;", 2, 2);
        bad("a: names 1; b: names 2; a: names 1;", 4, 24);
        bad("a: names 1; a", 4, 12);
        bad("a: names 1; a A", 4, 12);
        bad("a: may (((((((1))))))) > 1;", 5, 13);
        bad("a: may 1 > 2+((1)*((3)+(((((7", 5, 27);
        bad("a: names 0;", 6, 9);
        bad("a: names 5;", 6, 9);
        bad("a: names 99999;", 6, 9);
        bad("a: hours 1440 to 1441;", 6, 9);
        bad("a: hours 0 to 1440;", 6, 14);
        bad("a: hours 10 to 9;", 6, 15);
        bad("a: names 9; A", 6, 9);
    }

    private static void textsThatCanBe() {
        good("", 0);
        good("a:bar 1" + "*1".repeat(294) + "=1 ; ", 1);
        good(" \n \n", 0);
        good("a:may day<1;", 1);
        good("a:may(day)<1and(1)>2or 3=3;", 1);
        good("a strikes b:hours 0to 1439;c:hours 5 to 5;", 2);
        good("a : names 1 ; b : names 4 ;", 2);
        good("a: names 00004;", 1);
        good("a: may ((((((1)))))) > ((((((day))))));", 1);
        good("a: may (1)+(2)*(3)-((4)) > 99999;", 1);
        good("a: may not day > 1 and not day < 1 or not day = 1;", 1);
        good("a strikes a: bar day = 0; b strikes a: void day = 0 unless not day = 1;", 2);
    }

    private static void labels() {
        String[] words = {"strikes", "may", "unless", "bar", "void", "names", "hours", "to", "or", "and", "not", "land", "plots",
            "held", "split", "trade", "home", "paid", "minute", "day"};
        for (String word : words) {
            bad(word + ": names 1;", 2, 0);
            bad("a strikes " + word + ": names 1;", 2, 10);
            if (word.length() < 8) {
                good(word + "s: names 1;", 1);
            }
            good("x" + word.substring(1) + "x: names 1;", 1);
        }
        good("abcdefgh strikes zzzzzzzz: names 1;", 1);
        bad("abcdefghi: names 1;", 2, 0);
        bad("a strikes abcdefghi: names 1;", 2, 10);
        bad("a: may minutesss > 1;", 2, 7);
    }

    private static void faultIsOfTheLatestText() {
        PollBooks x = new PollBooks();
        CHECK.due("fault(0) ahead of any", x.fault(0), -1);
        CHECK.due("fault(1) ahead of any", x.fault(1), -1);
        x.text(1, 0, 1);
        CHECK.due("fault(0) behind one refused", x.fault(0), -1);
        Check.text(x, "a: names 7;", 0, 1);
        CHECK.due("fault(0)", x.fault(0), 6);
        CHECK.due("fault(1)", x.fault(1), 9);
        CHECK.due("fault(2)", x.fault(2), -1);
        CHECK.due("fault(-1)", x.fault(-1), -1);
        x.text(999, 0, 1);
        CHECK.due("fault(0) stays", x.fault(0), 6);
        Check.text(x, "a: names 2;", 0, 1);
        CHECK.due("fault(0)", x.fault(0), 0);
        CHECK.due("fault(1)", x.fault(1), -1);
    }

    private static String rulesOf(int many) {
        StringBuilder b = new StringBuilder();
        for (int i = 0; i < many; i++) {
            b.append("l").append((char) ('a' + i)).append(":names 1;");
        }
        return b.toString();
    }

    private static void twentyRules() {
        good(rulesOf(20), 20);
        bad(rulesOf(21), 3, 220);
        bad(rulesOf(20) + "la:names 1;", 3, 220);
        bad(rulesOf(20) + "may:names 1;", 2, 220);
        bad(rulesOf(20) + " A", 1, 221);
    }

    private static void fiveTexts() {
        PollBooks x = new PollBooks();
        for (int i = 0; i < 5; i++) {
            CHECK.refused(x, "one with a FAULT counts none", Check.text(x, "a", 0, 127), 9);
            CHECK.fine(x, "text " + i, Check.text(x, rulesOf(20), 0, 127), 20);
        }
        CHECK.fine(x, "rules", x.rules(6, 9999), 100);
        Check.onTape(x, "a");
        CHECK.refused(x, "a sixth", x.text(1, 0, 127), 4);
        CHECK.refused(x, "a sixth that can't be", x.text(1, 0, 128), 1);
        CHECK.due("the tape is as it was", x.feed(0, 0, 0, 0, 0), 40);
        CHECK.due("fault is as it was", x.fault(0), 0);
        CHECK.fine(x, "struck", x.struck(0, 0, 99), 0);
        CHECK.refused(x, "struck 100", x.struck(0, 0, 100), 1);
    }

    private static void rulesByDaysAndPlaces() {
        PollBooks x = new PollBooks();
        x.person(1, 0, 0);
        Check.text(x, "late: may day > 0;", 50, 1);
        Check.text(x, "early: may day > 0; also: may day > 0;", 20, 3);
        Check.text(x, "like: may day > 0;", 20, 64 + 1);
        Check.text(x, "", 0, 127);
        int[][] due = {{0, 19, 0}, {0, 20, 3}, {0, 49, 3}, {0, 50, 4}, {1, 50, 2}, {6, 50, 1}, {6, 19, 0}, {2, 9999, 0}};
        for (int[] d : due) {
            CHECK.fine(x, "rules(" + d[0] + ", " + d[1] + ")", x.rules(d[0], d[1]), d[2]);
        }
        // who strikes it tells where a RULE stands: behind those of 20, and ahead of none
        Check.text(x, "end strikes late: may day > 0; e strikes like: may day > 0;", 20, 1);
        CHECK.fine(x, "rules(0, 60)", x.rules(0, 60), 6);
        int[] struck = {0, 0, 1, 0, 0, 0};
        for (int i = 0; i < 6; i++) {
            CHECK.fine(x, "struck " + i, x.struck(0, 60, i), struck[i]);
        }
        CHECK.refused(x, "rules(7, 0)", x.rules(7, 0), 1);
        CHECK.refused(x, "rules(-1, 0)", x.rules(-1, 0), 1);
        CHECK.refused(x, "rules(0, -1)", x.rules(0, -1), 1);
        CHECK.refused(x, "rules(0, 10000)", x.rules(0, 10000), 1);
    }

    private static void strikes() {
        PollBooks x = new PollBooks();
        x.person(1, 0, 0);
        Check.text(x, "a strikes c: names 1; b strikes a: names 3; c strikes b: names 4; d strikes none: names 2; e strikes e: names 1;",
            0, 1);
        int[] due = {1, 1, 0, 0, 0};
        for (int i = 0; i < due.length; i++) {
            CHECK.fine(x, "struck " + i, x.struck(0, 0, i), due[i]);
        }
        CHECK.refused(x, "struck 5", x.struck(0, 0, 5), 1);
        CHECK.refused(x, "struck -1", x.struck(0, 0, -1), 1);
        CHECK.refused(x, "struck elsewhere", x.struck(1, 0, 0), 1);
        CHECK.refused(x, "struck at 7", x.struck(7, 0, 0), 1);
        CHECK.refused(x, "struck on -1", x.struck(0, -1, 0), 1);
        // a later TEXT for other PLACES strikes nothing here
        Check.text(x, "x strikes d: names 4; y strikes e: names 4;", 5, 2);
        CHECK.fine(x, "not from elsewhere", x.struck(0, 9, 3), 0);
        Check.text(x, "x strikes e: may day > 99;", 5, 1);
        CHECK.fine(x, "from another TEXT", x.struck(0, 9, 4), 1);
        CHECK.fine(x, "not ahead of its DAY", x.struck(0, 4, 4), 0);
        CHECK.fine(x, "names without it", x.names(0, 9), 2);
        CHECK.fine(x, "names with it", x.names(0, 4), 1);
    }

    private static void hours() {
        PollBooks x = new PollBooks();
        x.person(1, 0, 0);
        Check.text(x, "all: may day > 0; wide: hours 100 to 900; tight: hours 200 to 300;", 0, 1);
        int[][] due = {{199, 1, 2}, {200, 0, 0}, {300, 0, 0}, {301, 1, 2}, {0, 1, 2}, {1439, 1, 2}};
        for (int[] d : due) {
            CHECK.fine(x, "right at " + d[0], x.right(0, 0, 5, d[0]), d[1]);
            CHECK.fine(x, "why at " + d[0], x.why(0, 0, 5, d[0]), d[2]);
        }
        Check.text(x, "off strikes tight: names 1;", 10, 1);
        CHECK.fine(x, "the wide hours", x.right(0, 0, 10, 900), 0);
        CHECK.fine(x, "out of the wide hours", x.right(0, 0, 10, 901), 1);
        CHECK.fine(x, "why", x.why(0, 0, 10, 99), 1);
        Check.text(x, "none: bar minute > 0;", 20, 1);
        CHECK.fine(x, "hours go ahead of bars", x.right(0, 0, 20, 1000), 1);
        CHECK.fine(x, "bars behind hours", x.right(0, 0, 20, 100), 3);
    }

    private static void barsAndMays() {
        PollBooks x = new PollBooks();
        x.person(1, 4, 2);
        CHECK.fine(x, "no RULE at all", x.right(0, 0, 0, 0), 2);
        CHECK.refused(x, "why", x.why(0, 0, 0, 0), 6);
        Check.text(x, "a: may trade = 5; b: bar home = 1; c: may day > 9; d: may day > 4; e: bar day > 19; f: bar day > 14;", 0, 127);
        int[][] due = {{4, 2, -1}, {5, 0, 3}, {9, 0, 3}, {10, 0, 2}, {14, 0, 2}, {15, 3, 5}, {20, 3, 4}};
        for (int[] d : due) {
            CHECK.fine(x, "right on " + d[0], x.right(0, 0, d[0], 7), d[1]);
            CHECK.due("why on " + d[0], x.why(0, 0, d[0], 7), d[2]);
            CHECK.due("status of why on " + d[0], x.status(), d[2] == -1 ? 6 : 0);
        }
        CHECK.fine(x, "at HOME", x.right(0, 2, 10, 7), 3);
        CHECK.fine(x, "why at HOME", x.why(0, 2, 10, 7), 1);
        comerRefuses(x);
    }

    private static void comerRefuses(PollBooks x) {
        int[][] bad = {{1, 0, 0, 0}, {-1, 0, 0, 0}, {0, 7, 0, 0}, {0, -1, 0, 0}, {0, 0, -1, 0}, {0, 0, 10000, 0}, {0, 0, 0, -1},
            {0, 0, 0, 1440}};
        for (int[] b : bad) {
            CHECK.refused(x, "right", x.right(b[0], b[1], b[2], b[3]), 1);
            CHECK.refused(x, "why", x.why(b[0], b[1], b[2], b[3]), 1);
            CHECK.refused(x, "voided", x.voided(b[0], b[1], b[2], b[3]), 1);
        }
    }

    private static void unless() {
        PollBooks x = new PollBooks();
        x.person(1, 0, 0);
        Check.text(x, "a: may day > 5 or day = 1 unless day = 7 and minute > 10 or day = 9;", 0, 1);
        int[][] due = {{1, 0, 0}, {2, 0, 2}, {6, 0, 0}, {7, 10, 0}, {7, 11, 2}, {8, 11, 0}, {9, 0, 2}};
        for (int[] d : due) {
            CHECK.fine(x, "right on " + d[0] + " at " + d[1], x.right(0, 0, d[0], d[1]), d[2]);
        }
    }

    private static void voids() {
        PollBooks x = new PollBooks();
        x.person(1, 0, 0);
        CHECK.fine(x, "no RULE", x.voided(0, 0, 0, 0), 0);
        Check.text(x, "a: void paid > 9 unless day > 50; b: may day > 0; c: void minute = 3;", 0, 1);
        x.pay(0, 10, 20, true, 0);
        CHECK.fine(x, "not yet", x.voided(0, 0, 19, 0), 0);
        CHECK.fine(x, "void", x.voided(0, 0, 20, 0), 1);
        CHECK.fine(x, "no bar", x.right(0, 0, 20, 0), 0);
        CHECK.fine(x, "unless", x.voided(0, 0, 51, 0), 0);
        CHECK.fine(x, "at the MINUTE", x.voided(0, 0, 51, 3), 1);
        CHECK.fine(x, "elsewhere", x.voided(0, 1, 20, 0), 0);
        Check.text(x, "d strikes c: names 1;", 60, 1);
        CHECK.fine(x, "STRUCK", x.voided(0, 0, 60, 3), 0);
    }

    private static void names() {
        PollBooks x = new PollBooks();
        CHECK.fine(x, "2 without", x.names(0, 0), 2);
        Check.text(x, "a: names 4; b: names 1;", 10, 1);
        Check.text(x, "c strikes b: may day > 0; d: names 3;", 20, 1);
        Check.text(x, "e strikes d: may day > 0;", 30, 1);
        int[][] due = {{9, 2}, {10, 1}, {20, 3}, {30, 4}};
        for (int[] d : due) {
            CHECK.fine(x, "names on " + d[0], x.names(0, d[0]), d[1]);
        }
        CHECK.fine(x, "elsewhere", x.names(1, 30), 2);
        CHECK.refused(x, "names(7, 0)", x.names(7, 0), 1);
        CHECK.refused(x, "names(-1, 0)", x.names(-1, 0), 1);
        CHECK.refused(x, "names(0, 10000)", x.names(0, 10000), 1);
        CHECK.refused(x, "names(0, -1)", x.names(0, -1), 1);
    }

    /** Whether a TEST holds of PERSON 0 (trade 3, HOME 0) on DAY 10 at MINUTE 100. */
    private static void test(String test, boolean holds) {
        PollBooks x = new PollBooks();
        x.person(1, 3, 0);
        CHECK.fine(x, test, Check.text(x, "a: may " + test + ";", 0, 1), 1);
        CHECK.fine(x, test, x.right(0, 0, 10, 100), holds ? 0 : 2);
    }

    private static void sums() {
        test("2 + 3 * 4 = 14", true);
        test("2 * 3 + 4 = 10", true);
        test("(2 + 3) * 4 = 20", true);
        test("10 - 3 - 2 = 5", true);
        test("10 - (3 - 2) = 9", true);
        test("2 * 3 * 4 - 5 * 4 = 4", true);
        test("3 - 5 < 0", true);
        test("0 - 1 = 1 - 2", true);
        test("1 - 2 * 3 + 4 * (5 - 6) - 7 = 0 - 16", true);
        test("99999 * 99999 = 0", false);
        test("99999*99999*99999*99999 > 0", 99999L * 99999 * 99999 * 99999 > 0);
        test("65536 * 65536 * 65536 * 65536 = 0", true);
        test("65536 * 65536 * 65536 * 32768 < 0", true);
        test("65536 * 65536 * 65536 * 32768 - 1 > 0", true);
        test("1+2*(1+2*(1+2*(1+2*(1+2*(1+2*(1+2)))))) = 255", true);
    }

    private static void tests() {
        test("1 < 2", true);
        test("2 < 2", false);
        test("2 > 2", false);
        test("3 > 2", true);
        test("not 3 > 2", false);
        test("not 1 < 2", false);
        test("not 2 = 2", false);
        test("1 < 2 and 2 > 1 and 2 = 2", true);
        test("not 3 < 2", true);
        test("1 = 1 or 1 = 2 and 1 = 3", true);
        test("1 = 2 and 1 = 1 or 1 = 1", true);
        test("1 = 2 or 1 = 1 and 1 = 2", false);
        test("1 = 2 or 1 = 2 or 1 = 1", true);
        test("1 = 1 and 1 = 1 and 1 = 2", false);
        test("not 1 = 2 and not 1 = 3 or 1 = 4", true);
        test("not 1 = 1 or 1 = 1", true);
    }

    private static void variables() {
        PollBooks x = new PollBooks();
        x.person(1, 3, 4);
        x.hold(0, 7, 30, 2, 90, 0);
        x.hold(0, 8, 12, 5, 90, 0);
        x.split(8, 6, 0);
        x.pay(0, 25, 9, true, 0);
        Check.text(x, "a: may land = 42 and plots = 2 and held = 8 and split = 4;"
            + "b: may trade = 3 and home = 1 and paid = 25; c: may minute = 77 and day = 11;", 0, 127);
        CHECK.fine(x, "land plots held split", x.why(0, 0, 10, 0), 0);
        CHECK.fine(x, "trade home paid", x.why(0, 4, 9, 0), 1);
        CHECK.fine(x, "minute day", x.why(0, 0, 11, 77), 2);
        CHECK.fine(x, "none of them", x.right(0, 0, 11, 78), 2);
        x.asof(0);
        CHECK.fine(x, "AS OF the DAY known", x.why(0, 0, 10, 0), 0);
    }
}
