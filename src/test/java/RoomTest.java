import java.lang.management.ManagementFactory;

/** What a run makes: rows are made with the object, and no call but text() makes anything behind that. */
public final class RoomTest {
    private static final int MOST_BYTES_OF_AN_OBJECT = 60000;
    private static final Check CHECK = new Check();
    private static final com.sun.management.ThreadMXBean THREADS =
        (com.sun.management.ThreadMXBean) ManagementFactory.getThreadMXBean();

    public static void main(String[] args) {
        // what the machine itself makes at first use of a class or a call is no part of what is counted
        long sum = fill(new PollBooks());
        long before = made();
        PollBooks x = new PollBooks();
        long object = made() - before;
        before = made();
        sum += fill(x);
        long texts = made() - before;
        before = made();
        sum += fill(x);
        long calls = made() - before;
        System.out.println(object + " bytes an object, " + texts + " with five TEXTS, " + calls + " by calls; " + sum);
        CHECK.due("an object is small", object < MOST_BYTES_OF_AN_OBJECT, true);
        CHECK.due("five TEXTS are small", texts < MOST_BYTES_OF_AN_OBJECT, true);
        // the measuring itself makes a little
        CHECK.due("calls make nothing", calls < 4096, true);
        CHECK.end();
    }

    private static long made() {
        return THREADS.getThreadAllocatedBytes(Thread.currentThread().getId());
    }

    private static long fill(PollBooks x) {
        long sum = 0;
        for (int i = 0; i < 40; i++) {
            sum += x.person(1 + i % 26, i % 20, i % 7);
            x.hold(i, i % 40, 1 + i, 0, 9999, 0);
            x.pay(i, 5, 3, true, 0);
            x.split(i, 5, 0);
            sum += x.entry(i % 3, 1 + i % 26, -1, 600 + i, 1 + i % 15);
            sum += x.offer(i, 1 + i % 15, 600);
            sum += x.ground(i % 2 == 0, i % 10);
            sum += x.member(i % 9, i % 5);
        }
        x.tray(0, 0, 7);
        x.write(0, 3, 70);
        sum += x.feed(0x613A6261, 0x72206461, 0x793C393B, 0x623A6D61, 0x79206461) + x.feed(0x793E303B, 0, 0, 0, 0);
        for (int i = 0; i < 6; i++) {
            sum += x.text(24, i, 127);
            sum += x.feed(0x613A6261, 0x72206461, 0x793C393B, 0x623A6D61, 0x79206461) + x.feed(0x793E303B, 0, 0, 0, 0);
            sum += x.text(1, i, 127);
            sum += x.feed(0x613A6261, 0x72206461, 0x793C393B, 0x623A6D61, 0x79206461) + x.feed(0x793E303B, 0, 0, 0, 0);
        }
        for (int i = 0; i < 40; i++) {
            sum += x.join(1) + x.joined(i % 13) + x.who(i % 13) + x.sure(i % 13, 1) + x.far(33, 66) + x.fact(i, 0, 5, i % 7);
            sum += x.right(i, 0, 20, 5) + x.why(i, 0, 20, 5) + x.voided(i, 0, 20, 5) + x.names(0, 20) + x.rules(0, i) + x.struck(0, 9, 1);
            sum += x.poll(i % 4, 0, 20, true) + x.seated(i % 2, 0, 20, true) + x.standing(i % 13, 0, 20) + x.stands(i % 20, 0, 20);
            sum += x.written(i % 4, i) + x.turns(i % 4, i % 3) + x.draw(9, 4, i) + x.bench(0) + x.coaches(i % 7, 0, 5) + x.coachMany();
        }
        return sum;
    }
}
