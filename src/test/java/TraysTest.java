/** Promises 1 to 6: a new object, status, TRAYS. */
public final class TraysTest {
    private static final Check CHECK = new Check();

    public static void main(String[] args) {
        newObject();
        statusIsOfTheLatestCallThatHasOne();
        trays();
        writeCutsToTheSort();
        readRefuses();
        pourCopies();
        pourRefusesInOrder();
        CHECK.end();
    }

    private static void newObject() {
        PollBooks x = new PollBooks();
        CHECK.due("status()", x.status(), 0);
        for (int t = 0; t < 4; t++) {
            CHECK.refused(x, "read of a new object", x.read(t, 0), 2);
        }
        CHECK.refused(x, "nobody", x.fact(0, 0, 0, 0), 1);
        CHECK.refused(x, "no ENTRY", x.joined(0), 1);
        CHECK.refused(x, "an empty tape", x.text(1, 0, 1), 1);
        CHECK.fine(x, "text of nothing", x.text(0, 0, 1), 0);
        CHECK.fine(x, "join(1)", x.join(1), 0);
        CHECK.fine(x, "tally(3, 0)", x.tally(3, 0), 0);
        CHECK.fine(x, "seated(0)", x.seated(0, 0, 0, true), 0);
        CHECK.fine(x, "seated(1)", x.seated(1, 0, 0, true), 1);
        CHECK.fine(x, "turns(1, 2)", x.turns(1, 2), 0);
        CHECK.refused(x, "turns(2, 0)", x.turns(2, 0), 6);
        x.person(1, 0, 0);
        x.hold(0, 0, 5, 0, 9999, 9999);
        CHECK.fine(x, "AS OF 9,999", x.fact(0, 0, 0, 0), 5);
    }

    private static void statusIsOfTheLatestCallThatHasOne() {
        PollBooks x = new PollBooks();
        x.tray(4, 0, 0);
        CHECK.due("status()", x.status(), 1);
        x.status();
        x.feed(0, 0, 0, 0, 0);
        x.fault(0);
        x.fault(7);
        CHECK.due("status() behind calls without one", x.status(), 1);
        x.tray(0, 0, 0);
        CHECK.due("status()", x.status(), 0);
        x.read(1, 0);
        for (int i = 0; i < 31; i++) {
            x.feed(0, 0, 0, 0, 0);
        }
        CHECK.due("status() behind a feed() too many", x.status(), 2);
    }

    private static void trays() {
        PollBooks x = new PollBooks();
        CHECK.refused(x, "tray -1", x.tray(-1, 0, 5), 1);
        CHECK.refused(x, "tray 4", x.tray(4, 0, 5), 1);
        CHECK.refused(x, "sort -1", x.tray(0, -1, 5), 1);
        CHECK.refused(x, "sort 4", x.tray(0, 4, 5), 1);
        CHECK.refused(x, "many -1", x.tray(0, 0, -1), 1);
        CHECK.refused(x, "many 61", x.tray(0, 0, 61), 1);
        CHECK.refused(x, "still MISSING", x.read(0, 0), 2);
        CHECK.fine(x, "60", x.tray(0, 3, 60));
        CHECK.fine(x, "read(0, 59)", x.read(0, 59), 0);
        CHECK.refused(x, "read(0, 60)", x.read(0, 60), 3);
        CHECK.fine(x, "0", x.tray(1, 0, 0));
        CHECK.refused(x, "read(1, 0)", x.read(1, 0), 3);
        x.write(0, 5, 77);
        CHECK.refused(x, "refused, so left", x.tray(0, 9, 3), 1);
        CHECK.fine(x, "read(0, 5)", x.read(0, 5), 77);
        CHECK.fine(x, "anew", x.tray(0, 1, 10));
        CHECK.fine(x, "read(0, 5) anew", x.read(0, 5), 0);
        CHECK.refused(x, "read(0, 10)", x.read(0, 10), 3);
        CHECK.fine(x, "longer again", x.tray(0, 1, 60));
        CHECK.fine(x, "read(0, 59)", x.read(0, 59), 0);
    }

    private static void writeCutsToTheSort() {
        PollBooks x = new PollBooks();
        long[] given = {300, 200, -1, 40000, 3000000000L, 1L << 40 | 9, Long.MIN_VALUE, Long.MAX_VALUE};
        for (int sort = 0; sort < 4; sort++) {
            x.tray(sort, sort, 8);
            for (int i = 0; i < given.length; i++) {
                CHECK.fine(x, "write", x.write(sort, i, given[i]));
                long v = given[i];
                long want = sort == 0 ? (byte) v : sort == 1 ? (short) v : sort == 2 ? (int) v : v;
                CHECK.fine(x, "read of sort " + sort, x.read(sort, i), want);
            }
        }
        CHECK.refused(x, "write(4, 0)", x.write(4, 0, 1), 1);
        CHECK.refused(x, "write(-1, 0)", x.write(-1, 0, 1), 1);
        CHECK.refused(x, "write(0, 8)", x.write(0, 8, 1), 3);
        CHECK.refused(x, "write(0, -1)", x.write(0, -1, 1), 3);
        CHECK.refused(x, "write to the greatest", x.write(0, Integer.MAX_VALUE, 1), 3);
        PollBooks y = new PollBooks();
        CHECK.refused(y, "write to none", y.write(0, 99, 1), 2);
    }

    private static void readRefuses() {
        PollBooks x = new PollBooks();
        CHECK.refused(x, "read(4, 0)", x.read(4, 0), 1);
        CHECK.refused(x, "read(3, -5)", x.read(3, -5), 2);
        x.tray(3, 3, 2);
        CHECK.refused(x, "read(3, -1)", x.read(3, -1), 3);
        CHECK.refused(x, "read(3, 2)", x.read(3, 2), 3);
        x.write(3, 1, -1);
        CHECK.fine(x, "-1 that is no NONE", x.read(3, 1), -1);
    }

    private static void pourCopies() {
        PollBooks x = new PollBooks();
        x.tray(0, 2, 6);
        x.tray(1, 2, 4);
        for (int i = 0; i < 6; i++) {
            x.write(0, i, i + 1);
        }
        CHECK.fine(x, "pour to another", x.pour(0, 2, 1, 0, 4));
        row(x, 1, 3, 4, 5, 6);
        CHECK.fine(x, "pour on", x.pour(0, 0, 0, 1, 5));
        row(x, 0, 1, 1, 2, 3, 4, 5);
        CHECK.fine(x, "pour back", x.pour(0, 2, 0, 0, 4));
        row(x, 0, 2, 3, 4, 5, 4, 5);
        CHECK.fine(x, "pour of nothing", x.pour(0, 0, 1, 0, 0));
        row(x, 1, 3, 4, 5, 6);
        CHECK.fine(x, "pour of nothing at the end", x.pour(0, 6, 1, 4, 0));
    }

    private static void row(PollBooks x, int tray, long... want) {
        for (int i = 0; i < want.length; i++) {
            CHECK.due("place " + i + " of tray " + tray, x.read(tray, i), want[i]);
        }
    }

    private static void pourRefusesInOrder() {
        PollBooks x = new PollBooks();
        x.tray(0, 2, 6);
        x.tray(1, 2, 4);
        x.tray(2, 1, 6);
        CHECK.refused(x, "from 4", x.pour(4, 0, 0, 0, 1), 1);
        CHECK.refused(x, "to -1", x.pour(0, 0, -1, 0, 1), 1);
        CHECK.refused(x, "place below 0, a TRAY MISSING", x.pour(0, -1, 3, 0, 1), 1);
        CHECK.refused(x, "at below 0", x.pour(0, 0, 1, -1, 1), 1);
        CHECK.refused(x, "many below 0", x.pour(0, 0, 1, 0, -1), 1);
        CHECK.refused(x, "to MISSING", x.pour(0, 50, 3, 0, 1), 2);
        CHECK.refused(x, "from MISSING", x.pour(3, 0, 0, 0, 1), 2);
        CHECK.refused(x, "unlike ahead of too few", x.pour(0, 50, 2, 0, 1), 8);
        CHECK.refused(x, "too few in from", x.pour(0, 3, 1, 0, 4), 3);
        CHECK.refused(x, "too few in to", x.pour(0, 0, 1, 1, 4), 3);
        CHECK.refused(x, "far too many", x.pour(0, 1, 1, 1, Integer.MAX_VALUE), 3);
        CHECK.refused(x, "far too far", x.pour(0, Integer.MAX_VALUE, 1, 1, 1), 3);
        CHECK.refused(x, "nothing from behind the end", x.pour(0, 7, 1, 0, 0), 3);
    }
}
