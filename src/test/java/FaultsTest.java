/** FAULTS of a TEXT, sentence by sentence: the last text that can still be, and the first that can't. */
public final class FaultsTest {
    private static final Check CHECK = new Check();
    private static final String SIGNS = ";:<>=+-*()";

    public static void main(String[] args) {
        everyByteAtFirst();
        everyByteBehindTheLabel();
        everyByteAsABlank();
        tokensAsLongAsTheyGo();
        digits();
        theEnd();
        labelsOfOneToEight();
        wordsThatStandHere();
        whatMayFollowWhat();
        labelsThereAlready();
        brackets();
        numbersOfNames();
        numbersOfHours();
        theFirstAlongTheText();
        theLeastKindOfOneToken();
        faultOfTheLatest();
        refusedTextsLeaveNothingBehind();
        CHECK.end();
    }

    /** A text with a FAULT, of a kind at a place. */
    private static void bad(String text, int kind, int place) {
        PollBooks x = new PollBooks();
        CHECK.refused(x, "[" + text + "]", Check.text(x, text, 0, 127), 9);
        CHECK.due("the FAULT of [" + text + "]", x.fault(0), kind);
        CHECK.due("the place in [" + text + "]", x.fault(1), place);
        CHECK.due("no RULE of [" + text + "]", x.rules(0, 9999), 0);
    }

    private static void good(String text, int rules) {
        PollBooks x = new PollBooks();
        CHECK.fine(x, "[" + text + "]", Check.text(x, text, 0, 127), rules);
        CHECK.due("no FAULT of [" + text + "]", x.fault(0), 0);
        CHECK.due("no place in [" + text + "]", x.fault(1), -1);
    }

    private static boolean isLetter(int c) {
        return c >= 'a' && c <= 'z';
    }

    /** "1 no TOKEN begins so": blanks 10 and 32, small letters, digits and ten SIGNS are all that there is. */
    private static void everyByteAtFirst() {
        for (int c = 0; c < 256; c++) {
            String text = String.valueOf((char) c);
            if (c == 10 || c == 32) {
                good(text, 0);
            } else if (isLetter(c)) {
                bad(text, 2, 1);
            } else if (c >= '0' && c <= '9' || SIGNS.indexOf(c) >= 0) {
                bad(text, 2, 0);
            } else {
                bad(text, 1, 0);
            }
        }
    }

    private static void everyByteBehindTheLabel() {
        for (int c = 0; c < 256; c++) {
            String text = "lab" + (char) c + "e: names 1;";
            if (isLetter(c)) {
                good(text, 1);
            } else if (c == 10 || c == 32) {
                bad(text, 2, 4);
            } else if (c == ':') {
                bad(text, 2, 4);
            } else {
                bad(text, c >= '0' && c <= '9' || SIGNS.indexOf(c) >= 0 ? 2 : 1, 3);
            }
        }
    }

    /** "between them blanks (10, 32)". */
    private static void everyByteAsABlank() {
        for (int c = 0; c < 256; c++) {
            String text = "a:" + (char) c + "names 1;";
            if (c == 10 || c == 32) {
                good(text, 1);
            } else if (isLetter(c) || c >= '0' && c <= '9' || SIGNS.indexOf(c) >= 0) {
                bad(text, 2, 2);
            } else {
                bad(text, 1, 2);
            }
        }
        good("\n\n  a \n :\n\n  names  \n1\n;\n\n", 1);
    }

    /** "TOKENS, as long as they go". */
    private static void tokensAsLongAsTheyGo() {
        good("a:names1;", 1);
        good("a:may land<1and 2>1or 3=3unless not(day)=1;", 1);
        good("a strikes b:hours 480to 1020;", 1);
        bad("a:maybe land < 1;", 2, 2);
        bad("astrikes b: names 1;", 2, 9);
        bad("a: may landday > 1;", 2, 7);
        bad("a: may not1 > 1 and notland > 1;", 2, 20);
        bad("a: hours 480 to1020to 1021;", 2, 19);
    }

    /** "NUMBERS (1 to 5 digits)", "a NUMBER of 6 digits and more: at its first". */
    private static void digits() {
        good("a: may 1 = 12345;", 1);
        good("a: may 99999 > 00000;", 1);
        good("a: names 00001;", 1);
        good("a: hours 00000 to 01439;", 1);
        bad("a: may 100000 > 1;", 1, 7);
        bad("a: may 000000 > 1;", 1, 7);
        bad("a: may 1 > 123456;", 1, 11);
        bad("a: names 000001;", 1, 9);
        bad("a: hours 000000 to 5;", 1, 9);
        bad("a: hours 0 to 000005;", 1, 14);
        bad("a: may " + "9".repeat(593), 1, 7);
        bad("9".repeat(600), 1, 0);
        // two of five digits are two NUMBERS
        bad("a: may 12345 67890 > 1;", 2, 13);
        // letters end a NUMBER
        bad("a: may 12345a > 1;", 2, 12);
        test("12345 = 12344 + 1", true);
        test("99999 - 1 = 99998", true);
        test("00010 = 10", true);
    }

    /** Whether a TEST holds. */
    private static void test(String test, boolean holds) {
        PollBooks x = new PollBooks();
        x.person(1, 0, 0);
        CHECK.fine(x, test, Check.text(x, "a: may " + test + ";", 0, 1), 1);
        CHECK.fine(x, test, x.right(0, 0, 0, 0), holds ? 0 : 2);
    }

    /** "2 it can't stand there (the end: the text's length)": every text cut ahead of its last TOKEN ends too soon. */
    private static void theEnd() {
        String text = "ab strikes cd : bar not ( day + 1 ) * 2 > 3 and 4 < 5 or 6 = 7 unless trade = 8 ; e : hours 1 to 2 ;"
            + " f : names 3 ;";
        String[] tokens = text.split(" ");
        StringBuilder b = new StringBuilder();
        int rules = 0;
        for (String token : tokens) {
            if (b.length() > 0 && b.charAt(b.length() - 1) == ';') {
                good(b.toString(), ++rules);
                good(b + " \n", rules);
            } else if (b.length() > 0) {
                bad(b.toString(), 2, b.length());
                bad(b + " \n ", 2, b.length() + 3);
            }
            b.append(b.length() > 0 ? " " : "").append(token);
        }
        good(text, 3);
        good("", 0);
        good(" ", 0);
        good("\n", 0);
        // what is on the tape behind the first n bytes is no part of it
        PollBooks x = new PollBooks();
        Check.onTape(x, "a: names 1; b: names 2;");
        CHECK.fine(x, "the first eleven", x.text(11, 0, 1), 1);
        Check.onTape(x, "a: names 1; b: names 2;");
        CHECK.refused(x, "the first ten", x.text(10, 0, 1), 9);
        CHECK.due("the end", x.fault(1), 10);
        Check.onTape(x, "a: names 1; b: names 2;");
        CHECK.refused(x, "the first thirteen", x.text(13, 0, 1), 9);
        CHECK.due("the end", x.fault(1), 13);
    }

    /** "LABEL: a WORD of 1 to 8 letters". */
    private static void labelsOfOneToEight() {
        for (int n = 1; n <= 8; n++) {
            good("z".repeat(n) + ": names 1;", 1);
            good("a strikes " + "z".repeat(n) + ": names 1;", 1);
        }
        for (int n = 9; n < 16; n++) {
            bad("z".repeat(n) + ": names 1;", 2, 0);
            bad("a strikes " + "z".repeat(n) + ": names 1;", 2, 10);
        }
        bad("a".repeat(600), 2, 0);
        // letters 5 bits each of a ninth do not make it another one's LABEL
        good("aaaaaaaa: names 1; aaaaaaab: names 1; baaaaaaa: names 1; aaaaaaa: names 1; a: names 1;", 5);
        bad("a: names 1; aaaaaaaaa: names 1;", 2, 12);
    }

    /** "that is none of those that stand here with small letters, nor a VARIABLE". */
    private static void wordsThatStandHere() {
        String[] words = {"strikes", "may", "unless", "bar", "void", "names", "hours", "to", "or", "and", "not", "land", "plots",
            "held", "split", "trade", "home", "paid", "minute", "day"};
        for (String word : words) {
            bad(word + ": names 1;", 2, 0);
            bad("a: names 1; " + word + ": names 1;", 2, 12);
            bad("a strikes " + word + ": names 1;", 2, 10);
            good(word.substring(1) + "x: names 1;", 1);
            good(word.substring(0, word.length() - 1) + "x: names 1;", 1);
            good("x" + word + ": names 1;", 1);
            good("a strikes x" + word.substring(1) + ": names 1;", 1);
        }
    }

    private static final String[] TOKENS = {";", ":", "<", ">", "=", "+", "-", "*", "(", ")", "12", "word", "wordmuchtoolong",
        "strikes", "may", "unless", "bar", "void", "names", "hours", "to", "or", "and", "not", "land", "day"};

    /** Each TOKEN behind a beginning: those told can stand there (the end comes too soon then), all others can't. */
    private static void follow(String begin, String... can) {
        for (String token : TOKENS) {
            boolean stands = java.util.Arrays.asList(can).contains(token);
            String text = begin + " " + token;
            if (!stands) {
                bad(text, 2, begin.length() + 1);
            } else if (!token.equals(";")) {
                bad(text, 2, text.length());
            } else {
                PollBooks x = new PollBooks();
                CHECK.due("[" + text + "] is whole", Check.text(x, text, 0, 127) > 0, true);
            }
        }
    }

    /** "2 it can't stand there", at every joint of the grammar. */
    private static void whatMayFollowWhat() {
        String[] atom = {"12", "land", "day", "("};
        String[] begin = {"12", "land", "day", "(", "not"};
        follow("", "word");
        follow("a: names 1;", "word");
        follow("a", "strikes", ":");
        follow("a strikes", "word");
        follow("a strikes b", ":");
        follow("a:", "may", "bar", "void", "names", "hours");
        for (String verb : new String[] {"may", "bar", "void"}) {
            follow("a: " + verb, begin);
            follow("a: " + verb + " not", atom);
            follow("a: " + verb + " 1", "+", "-", "*", "<", ">", "=");
            follow("a: " + verb + " 1 = 1", "+", "-", "*", "and", "or", "unless", ";");
            follow("a: " + verb + " 1 = 1 unless", begin);
            follow("a: " + verb + " 1 = 1 unless 1", "+", "-", "*", "<", ">", "=");
            follow("a: " + verb + " 1 = 1 unless 1 = 1", "+", "-", "*", "and", "or", ";");
        }
        for (String word : new String[] {"and", "or"}) {
            follow("a: may 1 = 1 " + word, begin);
            follow("a: may 1 = 1 " + word + " not", atom);
            follow("a: may 1 = 1 unless 1 = 1 " + word, begin);
        }
        for (String sign : new String[] {"+", "-", "*", "<", ">", "="}) {
            follow("a: may 1 " + sign, atom);
        }
        follow("a: may (", atom);
        follow("a: may (1", "+", "-", "*", ")");
        follow("a: may (1 *", atom);
        follow("a: may (day)", "+", "-", "*", "<", ">", "=");
        follow("a: may 1 = (1)", "+", "-", "*", "and", "or", "unless", ";");
        follow("a: may 1 = ((1)", "+", "-", "*", ")");
        follow("a: names 4", ";");
        follow("a: hours 4", "to");
        follow("a: hours 4 to 12", ";");
        // 12 can stand there, but of names it can't be
        for (String token : TOKENS) {
            bad("a: names " + token, token.equals("12") ? 6 : 2, 9);
        }
        follow("a: hours", "12");
        follow("a: hours 4 to", "12");
    }

    /** "4 a LABEL of a RULE of this TEXT there already (at it)". */
    private static void labelsThereAlready() {
        bad("a: names 1; a: names 1;", 4, 12);
        bad("a: names 1;\n \n a", 4, 15);
        bad("a: names 1; b: names 1; abcdefgh: names 1; abcdefgh: names 1;", 4, 43);
        good("a: names 1; ab: names 1; b: names 1; aa: names 1; abc: names 1;", 5);
        // what strikes names is no LABEL of a RULE
        good("a strikes a: names 1;", 1);
        good("a strikes b: names 1; b strikes b: names 1; c strikes a: names 1; d strikes a: names 1;", 4);
        // another TEXT may have it
        PollBooks x = new PollBooks();
        CHECK.fine(x, "a TEXT", Check.text(x, "a: names 1;", 0, 1), 1);
        CHECK.fine(x, "another one", Check.text(x, "a: names 1;", 0, 1), 1);
        // one of a text with a FAULT is not there
        CHECK.refused(x, "a FAULT", Check.text(x, "c: names 1; b: names 0;", 0, 1), 9);
        CHECK.fine(x, "it is not there", Check.text(x, "b: names 1; c: names 1;", 0, 1), 2);
    }

    /** "5 brackets within six others (at the one that opens)". */
    private static void brackets() {
        for (int n = 1; n <= 6; n++) {
            good("a: may " + "(".repeat(n) + "1" + ")".repeat(n) + " = 1;", 1);
            good("a: may 1 = " + "(".repeat(n) + "1" + ")".repeat(n) + ";", 1);
            good("a: may 1 = 1 unless 1 = " + "(".repeat(n) + "1" + ")".repeat(n) + ";", 1);
        }
        for (int n = 7; n < 10; n++) {
            bad("a: may " + "(".repeat(n) + "1" + ")".repeat(n) + " = 1;", 5, 13);
            bad("a: may 1 = " + "(".repeat(n) + "1" + ")".repeat(n) + ";", 5, 17);
            bad("a: may 1 = 1 unless 1 = " + "(".repeat(n) + "1" + ")".repeat(n) + ";", 5, 30);
        }
        // closed ones are around nothing any more
        good("a: may " + "((((((1))))))+((((((1))))))*((((((1))))))" + " = ((((((1)))))) and ((((((1)))))) = 1;", 1);
        good("a: may (((((1)+(2))*(3))))-((((((4)))))) = 1;", 1);
        bad("a: may (((((1)+((2)+((3", 5, 21);
        // one is still open at the second +
        bad("a: may ((((((1)+(2))))) + ((((((( = 1;", 5, 31);
        test("((((((7)))))) = 7", true);
        test("1-(2-(3-(4-(5-(6-(7-8)))))) = 0-(4)", true);
    }

    /** "6 a NUMBER that can't be: of names 1 to 4". */
    private static void numbersOfNames() {
        int[] cannot = {0, 5, 6, 10, 14, 99999};
        for (int n : cannot) {
            bad("a: names " + n + ";", 6, 9);
            bad("a: names " + n, 6, 9);
        }
        for (int n = 1; n <= 4; n++) {
            PollBooks x = new PollBooks();
            CHECK.fine(x, "names " + n, Check.text(x, "a: names " + n + ";", 0, 1), 1);
            CHECK.fine(x, "names", x.names(0, 0), n);
        }
    }

    /** "of hours 0 to 1,439, the second one not below the first one". */
    private static void numbersOfHours() {
        good("a: hours 0 to 0;", 1);
        good("a: hours 0 to 1439;", 1);
        good("a: hours 1439 to 1439;", 1);
        good("a: hours 700 to 700;", 1);
        good("a: hours 700 to 701;", 1);
        bad("a: hours 700 to 699;", 6, 16);
        bad("a: hours 1 to 0;", 6, 14);
        bad("a: hours 1439 to 1438;", 6, 17);
        bad("a: hours 0 to 1440;", 6, 14);
        bad("a: hours 0 to 99999;", 6, 14);
        bad("a: hours 1440 to 1440;", 6, 9);
        bad("a: hours 1440 to 1439;", 6, 9);
        bad("a: hours 99999 to", 6, 9);
        bad("a: hours 1440", 6, 9);
        bad("a: hours 1440 1", 6, 9);
    }

    /** "FAULTS, the first along the text". */
    private static void theFirstAlongTheText() {
        bad("a: names 9; A", 6, 9);
        bad("a: names 1; A: names 9;", 1, 12);
        bad("a: may a = 1; a: 123456", 2, 7);
        bad("a: names 1; a: names 9;", 4, 12);
        bad("a: may ((((((( A", 5, 13);
        bad("a: may (((((( A", 1, 14);
        bad("a: hours 5 to 4 A", 6, 14);
        bad("; A", 2, 0);
        bad("A ;", 1, 0);
    }

    /** "of one TOKEN the least kind". */
    private static void theLeastKindOfOneToken() {
        bad("a: names 100000;", 1, 9);
        bad("a: hours 1 to 100000;", 1, 14);
        bad("a: may 1 = 1 (((((((", 2, 13);
        bad("a: names 1; a", 4, 12);
        // brackets that can't stand there are none within six others
        bad("a: may ((((((1(", 2, 14);
        bad("a: may ((((((1 (2", 2, 15);
        bad("a: may (((((((", 5, 13);
    }

    /** "Of the latest text() with STATUS 0 or 9 .. NONE for others, and ahead of any." */
    private static void faultOfTheLatest() {
        PollBooks x = new PollBooks();
        for (int what = -2; what < 4; what++) {
            CHECK.due("ahead of any", x.fault(what), -1);
        }
        CHECK.refused(x, "with STATUS 1", x.text(1, 0, 1), 1);
        CHECK.due("still ahead of any", x.fault(0), -1);
        CHECK.refused(x, "with STATUS 9", Check.text(x, "a: names 1; a", 0, 1), 9);
        faultIs(x, 4, 12);
        CHECK.refused(x, "with STATUS 1", x.text(0, 10000, 1), 1);
        faultIs(x, 4, 12);
        CHECK.refused(x, "with STATUS 9 again", Check.text(x, ";", 0, 1), 9);
        faultIs(x, 2, 0);
        for (int i = 0; i < 5; i++) {
            CHECK.fine(x, "with STATUS 0", x.text(0, 0, 1), 0);
            faultIs(x, 0, -1);
            if (i < 4) {
                CHECK.refused(x, "with STATUS 9 again", Check.text(x, " ;", 0, 1), 9);
                faultIs(x, 2, 1);
            }
        }
        CHECK.refused(x, "with STATUS 4", Check.text(x, ";", 0, 1), 4);
        faultIs(x, 0, -1);
        CHECK.refused(x, "with STATUS 1", x.text(-1, 0, 1), 1);
        faultIs(x, 0, -1);
    }

    private static void faultIs(PollBooks x, int kind, int place) {
        CHECK.due("fault(0)", x.fault(0), kind);
        CHECK.due("fault(1)", x.fault(1), place);
        for (int what : new int[] {-1, 2, 3, Integer.MIN_VALUE, Integer.MAX_VALUE}) {
            CHECK.due("fault of others", x.fault(what), -1);
        }
    }

    /** A text with a FAULT "changes nothing else": neither RULES nor code of it are in the next one. */
    private static void refusedTextsLeaveNothingBehind() {
        PollBooks x = new PollBooks();
        x.person(1, 0, 0);
        String sum = "1" + "+1".repeat(290);
        for (int i = 0; i < 5; i++) {
            CHECK.refused(x, "a FAULT behind much", Check.text(x, "a: may " + sum + "; b", 0, 1), 9);
            CHECK.refused(x, "a FAULT behind a RULE", Check.text(x, "a: bar 1 = 1; b: names 1; c", 0, 1), 9);
        }
        CHECK.fine(x, "nothing stands", x.rules(0, 0), 0);
        CHECK.fine(x, "the next", Check.text(x, "a: may " + sum + " = 291;", 0, 1), 1);
        CHECK.fine(x, "is as if it were the first", x.right(0, 0, 0, 0), 0);
        CHECK.fine(x, "by its RULE", x.why(0, 0, 0, 0), 0);
        CHECK.fine(x, "names", x.names(0, 0), 2);
        CHECK.refused(x, "a FAULT behind a TEXT", Check.text(x, "a: bar 1 = 1; z: names 9;", 0, 1), 9);
        CHECK.fine(x, "that TEXT is as it was", x.why(0, 0, 0, 0), 0);
        CHECK.fine(x, "and alone", x.rules(0, 0), 1);
    }
}
