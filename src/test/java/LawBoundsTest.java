/** The bounds that part 2 of the document names for RULES that stand: DAYS, PLACES, MINUTES, STRUCK, sums of 64 bits. */
public final class LawBoundsTest {
    private static final Check CHECK = new Check();

    public static void main(String[] args) {
        bytesFromTheHighest();
        inForceFromADayOn();
        forSomePlaces();
        oneBehindTheOther();
        struckFromBehind();
        hoursBothInThem();
        theLastHours();
        barsAndMays();
        unlessAndVoid();
        namesWithout();
        comparesAtTheirEdge();
        sumsGoRound();
        variablesToTheirEnds();
        asManyOpenAsCanBe();
        CHECK.end();
    }

    private static PollBooks one() {
        PollBooks x = new PollBooks();
        x.person(1, 0, 0);
        return x;
    }

    /** "Twenty bytes come behind those on the tape, the highest of each int first". */
    private static void bytesFromTheHighest() {
        String text = "abcdefgh strikes ijklmnop: hours 0 to 9;";
        byte[] bytes = text.getBytes(java.nio.charset.StandardCharsets.ISO_8859_1);
        int[] first = Check.five(bytes, 0);
        int[] second = Check.five(bytes, 20);
        PollBooks x = one();
        CHECK.due("length", bytes.length, 40);
        CHECK.due("feed", x.feed(first[0], first[1], first[2], first[3], first[4]), 20);
        CHECK.due("feed", x.feed(second[0], second[1], second[2], second[3], second[4]), 40);
        CHECK.fine(x, "text", x.text(40, 0, 1), 1);
        CHECK.fine(x, "right at 9", x.right(0, 0, 0, 9), 2);
        CHECK.fine(x, "right at 10", x.right(0, 0, 0, 10), 1);
        // each of the twenty places: a byte that is no TOKEN is found there
        for (int place = 0; place < 20; place++) {
            PollBooks y = new PollBooks();
            int[] five = {0x20202020, 0x20202020, 0x20202020, 0x20202020, 0x20202020};
            five[place / 4] = 0x20202020 & ~(255 << 24 - place % 4 * 8) | 200 << 24 - place % 4 * 8;
            CHECK.due("feed", y.feed(five[0], five[1], five[2], five[3], five[4]), 20);
            CHECK.refused(y, "text", y.text(20, 0, 1), 9);
            CHECK.due("place", y.fault(1), place);
            y.feed(five[0], five[1], five[2], five[3], five[4]);
            CHECK.fine(y, "up to it", y.text(place, 0, 1), 0);
            y.feed(five[0], five[1], five[2], five[3], five[4]);
            CHECK.refused(y, "and with it", y.text(place + 1, 0, 1), 9);
        }
    }

    /** "each in force from a DAY on". */
    private static void inForceFromADayOn() {
        for (int day : new int[] {0, 1, 5000, 9998, 9999}) {
            PollBooks x = one();
            CHECK.fine(x, "text", Check.text(x, "a: may day > 0 or day = 0; b: names 4; c: void 1 = 1;", day, 1), 3);
            CHECK.fine(x, "rules on it", x.rules(0, day), 3);
            CHECK.fine(x, "names on it", x.names(0, day), 4);
            CHECK.fine(x, "right on it", x.right(0, 0, day, 0), 0);
            CHECK.fine(x, "voided on it", x.voided(0, 0, day, 0), 1);
            CHECK.fine(x, "struck on it", x.struck(0, day, 2), 0);
            CHECK.fine(x, "rules on the last", x.rules(0, 9999), 3);
            if (day > 0) {
                CHECK.fine(x, "rules ahead of it", x.rules(0, day - 1), 0);
                CHECK.fine(x, "names ahead of it", x.names(0, day - 1), 2);
                CHECK.fine(x, "right ahead of it", x.right(0, 0, day - 1, 0), 2);
                CHECK.fine(x, "voided ahead of it", x.voided(0, 0, day - 1, 0), 0);
                CHECK.refused(x, "struck ahead of it", x.struck(0, day - 1, 0), 1);
            }
        }
    }

    /** "for some PLACES (a set: 1 for PLACE 0, 2 for 1 .., 1 to 127)". */
    private static void forSomePlaces() {
        for (int set = 1; set <= 127; set++) {
            PollBooks x = one();
            CHECK.fine(x, "text", Check.text(x, "a: names 4;", 0, set), 1);
            for (int place = 0; place < 7; place++) {
                int there = set >> place & 1;
                CHECK.fine(x, "rules at " + place + " of " + set, x.rules(place, 5), there);
                CHECK.fine(x, "names at " + place + " of " + set, x.names(place, 5), there == 1 ? 4 : 2);
            }
        }
    }

    /** "TEXTS by the DAY they began, of like ones as they were told, each by its text; numbered so from 0". */
    private static void oneBehindTheOther() {
        int[][] orders = {{0, 1, 2, 3, 4}, {4, 3, 2, 1, 0}, {7, 7, 7, 7, 7}, {3, 1, 3, 1, 2}, {2, 2, 1, 1, 0}, {0, 9, 0, 9, 0}};
        for (int[] days : orders) {
            PollBooks x = one();
            for (int t = 0; t < 5; t++) {
                // the RULES of TEXT t hold at MINUTES 2 t and 2 t + 1
                CHECK.fine(x, "text", Check.text(x, "a: may minute = " + 2 * t + "; b: may minute = " + (2 * t + 1) + ";",
                    days[t], 1), 2);
            }
            for (int t = 0; t < 5; t++) {
                int ahead = 0;
                for (int other = 0; other < 5; other++) {
                    ahead += days[other] < days[t] || days[other] == days[t] && other < t ? 2 : 0;
                }
                CHECK.fine(x, "the first of TEXT " + t, x.why(0, 0, 9, 2 * t), ahead);
                CHECK.fine(x, "the second of TEXT " + t, x.why(0, 0, 9, 2 * t + 1), ahead + 1);
            }
            CHECK.refused(x, "none of them", x.why(0, 0, 9, 10), 6);
        }
    }

    private static void struck(PollBooks x, int day, int... due) {
        CHECK.fine(x, "rules", x.rules(0, day), due.length);
        for (int r = 0; r < due.length; r++) {
            CHECK.fine(x, "struck(0, " + day + ", " + r + ")", x.struck(0, day, r), due[r]);
        }
        CHECK.refused(x, "struck of one more", x.struck(0, day, due.length), 1);
    }

    /** "STRUCK, if one behind it (that is struck or not) strikes its LABEL; it says nothing then." */
    private static void struckFromBehind() {
        PollBooks ahead = one();
        Check.text(ahead, "a strikes b: may 1 = 1; b: may 1 = 1;", 0, 1);
        struck(ahead, 0, 0, 0);
        PollBooks behind = one();
        Check.text(behind, "b: may 1 = 1; a strikes b: names 1;", 0, 1);
        struck(behind, 0, 1, 0);
        CHECK.fine(behind, "it says nothing", behind.right(0, 0, 0, 0), 2);
        PollBooks itself = one();
        Check.text(itself, "a strikes a: may 1 = 1;", 0, 1);
        struck(itself, 0, 0);
        PollBooks chain = one();
        Check.text(chain, "a: may 1 = 1; b strikes a: names 1; c strikes b: names 3;", 0, 1);
        struck(chain, 0, 1, 1, 0);
        CHECK.fine(chain, "the last that tells any", chain.names(0, 0), 3);
        PollBooks like = one();
        Check.text(like, "a: bar 1 = 1;", 0, 1);
        Check.text(like, "a: bar 1 = 1; z strikes a: may 1 = 1;", 10, 1);
        Check.text(like, "a: bar 1 = 1;", 20, 1);
        struck(like, 9, 0);
        struck(like, 10, 1, 1, 0);
        struck(like, 19, 1, 1, 0);
        struck(like, 20, 1, 1, 0, 0);
        CHECK.fine(like, "barred ahead of it", like.right(0, 0, 9, 0), 3);
        CHECK.fine(like, "not barred then", like.right(0, 0, 19, 0), 0);
        CHECK.fine(like, "barred again", like.right(0, 0, 20, 0), 3);
        CHECK.fine(like, "by the last", like.why(0, 0, 20, 0), 3);
        everyVerbIsSilent();
    }

    private static void everyVerbIsSilent() {
        PollBooks x = one();
        Check.text(x, "m: may 1 = 1; b: bar 1 = 1; v: void 1 = 1; n: names 4; h: hours 5 to 5;", 0, 1);
        CHECK.fine(x, "hours", x.right(0, 0, 0, 0), 1);
        Check.text(x, "x strikes h: names 3;", 1, 1);
        CHECK.fine(x, "no hours", x.right(0, 0, 1, 0), 3);
        Check.text(x, "y strikes b: names 1; z strikes y: names 1;", 2, 1);
        CHECK.fine(x, "no bar", x.right(0, 0, 2, 0), 0);
        CHECK.fine(x, "void", x.voided(0, 0, 2, 0), 1);
        CHECK.fine(x, "names of the last", x.names(0, 2), 1);
        Check.text(x, "q strikes v: may 1 = 2; p strikes m: may 1 = 2; o strikes z: may 1 = 2; r strikes x: may 1 = 2;", 3, 1);
        CHECK.fine(x, "no void", x.voided(0, 0, 3, 0), 0);
        CHECK.fine(x, "no may", x.right(0, 0, 3, 0), 2);
        CHECK.fine(x, "names of the first", x.names(0, 3), 4);
        Check.text(x, "n: names 2; s strikes n: may 1 = 2;", 4, 1);
        CHECK.fine(x, "no names at all", x.names(0, 4), 2);
    }

    /** "(from the first to the second one, both in them)". */
    private static void hoursBothInThem() {
        int[][] hours = {{0, 0}, {0, 1439}, {1439, 1439}, {700, 700}, {1, 1438}, {600, 601}};
        for (int[] h : hours) {
            PollBooks x = one();
            Check.text(x, "a: may 1 = 1; b: hours " + h[0] + " to " + h[1] + ";", 0, 1);
            int[] minutes = {0, h[0] - 1, h[0], h[1], h[1] + 1, 1439};
            for (int minute : minutes) {
                if (minute >= 0 && minute < 1440) {
                    boolean open = minute >= h[0] && minute <= h[1];
                    CHECK.fine(x, "right at " + minute, x.right(0, 0, 0, minute), open ? 0 : 1);
                    CHECK.fine(x, "why at " + minute, x.why(0, 0, 0, minute), open ? 0 : 1);
                }
            }
        }
    }

    /** "the hours of the last RULE that tells any": those ahead of it count for nothing. */
    private static void theLastHours() {
        PollBooks x = one();
        Check.text(x, "a: hours 0 to 9; b: may 1 = 1; c: hours 20 to 29; d: hours 10 to 19;", 0, 1);
        CHECK.fine(x, "right at 9", x.right(0, 0, 0, 9), 1);
        CHECK.fine(x, "right at 10", x.right(0, 0, 0, 10), 0);
        CHECK.fine(x, "right at 19", x.right(0, 0, 0, 19), 0);
        CHECK.fine(x, "right at 20", x.right(0, 0, 0, 20), 1);
        CHECK.fine(x, "why", x.why(0, 0, 0, 20), 3);
        // none of its own, so that of an earlier TEXT
        Check.text(x, "e: names 1;", 5, 1);
        CHECK.fine(x, "why", x.why(0, 0, 5, 20), 3);
        Check.text(x, "f: hours 0 to 1439;", 6, 1);
        CHECK.fine(x, "open", x.right(0, 0, 6, 20), 0);
    }

    /** "else 3 if a bar holds; else 2 if no may does; else 0", and WHY of each. */
    private static void barsAndMays() {
        for (int mix = 0; mix < 8; mix++) {
            boolean closed = (mix & 1) != 0;
            boolean bar = (mix & 2) != 0;
            boolean may = (mix & 4) != 0;
            PollBooks x = one();
            Check.text(x, "a: bar 1 = 2; b: may 1 = 2; c: may 1 = " + (may ? 1 : 2) + "; d: bar 1 = " + (bar ? 1 : 2)
                + "; e: hours 0 to " + (closed ? 4 : 5) + "; f: bar 1 = " + (bar ? 1 : 2) + "; g: may 1 = " + (may ? 1 : 2) + ";",
                0, 1);
            CHECK.fine(x, "right of " + mix, x.right(0, 0, 0, 5), closed ? 1 : bar ? 3 : may ? 0 : 2);
            if (closed || bar || may) {
                CHECK.fine(x, "why of " + mix, x.why(0, 0, 0, 5), closed ? 4 : bar ? 3 : 2);
            } else {
                CHECK.refused(x, "there is none", x.why(0, 0, 0, 5), 6);
            }
        }
    }

    /** "A TEST with unless behind it holds if that does not." */
    private static void unlessAndVoid() {
        String[] verbs = {"may", "bar", "void"};
        for (int mix = 0; mix < 4; mix++) {
            boolean holds = mix == 1;
            for (String verb : verbs) {
                PollBooks x = one();
                Check.text(x, "a: " + verb + " 1 = " + (2 - (mix & 1)) + " unless 1 = " + (2 - mix / 2) + "; z: may 1 = 1;", 0, 1);
                CHECK.fine(x, verb + " of " + mix, x.right(0, 0, 0, 0), holds && verb.equals("bar") ? 3 : 0);
                CHECK.fine(x, verb + " of " + mix, x.why(0, 0, 0, 0), holds && !verb.equals("void") ? 0 : 1);
                CHECK.fine(x, verb + " of " + mix, x.voided(0, 0, 0, 0), holds && verb.equals("void") ? 1 : 0);
            }
        }
    }

    /** "NAMES: what the last RULE that tells any says, 2 without." */
    private static void namesWithout() {
        PollBooks x = one();
        CHECK.fine(x, "without any TEXT", x.names(0, 9999), 2);
        Check.text(x, "a: may 1 = 1;", 0, 1);
        CHECK.fine(x, "without any that tells", x.names(0, 0), 2);
        Check.text(x, "b: names 1; c: names 4; d: may 1 = 1;", 1, 1);
        CHECK.fine(x, "the last that tells", x.names(0, 1), 4);
        CHECK.fine(x, "elsewhere", x.names(1, 1), 2);
        Check.text(x, "c: names 3; e strikes c: may 1 = 1;", 2, 1);
        CHECK.fine(x, "both are struck", x.names(0, 2), 1);
    }

    private static void test(String test, boolean holds) {
        PollBooks x = one();
        CHECK.fine(x, test, Check.text(x, "a: may " + test + ";", 0, 1), 1);
        CHECK.fine(x, test, x.right(0, 0, 0, 0), holds ? 0 : 2);
    }

    private static void comparesAtTheirEdge() {
        for (int d = -1; d <= 1; d++) {
            String right = " " + (5 + d) + " - 5";
            test("0 <" + right, 0 < d);
            test("0 >" + right, 0 > d);
            test("0 =" + right, 0 == d);
            test("not 0 <" + right, 0 >= d);
            test("not 0 >" + right, 0 <= d);
            test("not 0 =" + right, 0 != d);
        }
    }

    /** "NUMBERS are of 64 bits, round on." */
    private static void sumsGoRound() {
        String most = "(65536*65536*65536*32768 - 1)";
        String least = "(65536*65536*65536*32768)";
        test(most + " > 0", true);
        test(least + " < 0", true);
        test(most + " + 1 = " + least, true);
        test(least + " - 1 = " + most, true);
        test(least + " < " + most, true);
        test("0 - " + least + " = " + least, true);
        test("0 - " + most + " = " + least + " + 1", true);
        test(most + " + " + most + " = 0 - 2", true);
        test(most + " * 2 = 0 - 2", true);
        test(least + " * 2 = 0", true);
        test(least + " + " + least + " = 0", true);
        test("65536*65536*65536*65536 = 0", true);
        test("65536*65536*65536*65535 < 0", true);
        // 99,999 to the fourth is five rounds and 7,762,279,691,451,841,921
        test("99999*99999*99999*99999 = ((7762*50000*2 + 27969)*50000*2 + 14518)*50000*2 + 41921", true);
        test("65536 * 65536 > 99999", true);
        test("65536 * 32768 > 0", true);
    }

    /** Each VARIABLE at its ends, as a RULE sees it. */
    private static void variablesToTheirEnds() {
        PollBooks x = new PollBooks();
        x.person(1, 19, 6);
        for (int i = 0; i < 80; i++) {
            x.hold(0, i % 40, 1000, 0, 9999, 0);
        }
        for (int i = 0; i < 60; i++) {
            x.pay(0, 1000, 0, true, 0);
        }
        Check.text(x, "a: may land = 80000 and plots = 80 and held = 9999 and split = 9999 and trade = 19 and home = 1"
            + " and paid = 60000 and minute = 1439 and day = 9999;", 0, 127);
        Check.text(x, "b: may land = 80000 and plots = 80 and held = 0 and split = 9999 and trade = 19 and home = 0"
            + " and paid = 60000 and minute = 0 and day = 0;", 0, 127);
        CHECK.fine(x, "on the last DAY at the last MINUTE", x.why(0, 6, 9999, 1439), 0);
        CHECK.fine(x, "on the first at the first", x.why(0, 5, 0, 0), 1);
        CHECK.refused(x, "not elsewhere", x.why(0, 5, 9999, 1439), 6);
        CHECK.refused(x, "nor a MINUTE ahead", x.why(0, 6, 9999, 1438), 6);
        CHECK.refused(x, "nor a DAY ahead", x.why(0, 6, 9998, 1439), 6);
        PollBooks none = one();
        Check.text(none, "a: may land = 0 and plots = 0 and held = 0 and split = 9999 and trade = 0 and home = 1 and paid = 0;", 0, 1);
        CHECK.fine(none, "without anything", none.right(0, 0, 9999, 0), 0);
    }

    /** Sums within six brackets, each behind an open + and *, both sides, behind an open or, and, unless. */
    private static void asManyOpenAsCanBe() {
        String deep = "1+2*(1+2*(1+2*(1+2*(1+2*(1+2*(1+2*3))))))";
        test(deep + " = 511", true);
        test("1 = 2 or 1 = 1 and " + deep + " = " + deep, true);
        test("1 = 1 unless 1 = 2 or 1 = 1 and " + deep + " = " + deep + " + 1", true);
        test("1 = 1 unless 1 = 2 or 1 = 1 and " + deep + " = " + deep, false);
        test("1 = 2 or 1 = 1 and not " + deep + " = " + deep + " unless 1 = 2", false);
    }
}
