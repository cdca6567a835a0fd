import java.nio.charset.StandardCharsets;

/** Counts the answers of one test that are not as due, and ends it with exit code 1 if there are any. */
final class Check {
    private int asDue;
    private int wrong;

    void due(String call, long got, long want) {
        if (got == want) {
            asDue++;
        } else {
            wrong++;
            System.out.println(call + " answered " + got + ", due is " + want);
        }
    }

    void due(String call, boolean got, boolean want) {
        due(call, got ? 1 : 0, want ? 1 : 0);
    }

    /** The answer that is due, with STATUS 0. */
    void fine(PollBooks x, String call, long got, long want) {
        due(call, got, want);
        due("status() behind " + call, x.status(), 0);
    }

    void fine(PollBooks x, String call, boolean got) {
        fine(x, call, got ? 1 : 0, 1);
    }

    /** NONE with a STATUS. */
    void refused(PollBooks x, String call, long got, int status) {
        due(call, got, -1);
        due("status() behind " + call, x.status(), status);
    }

    /** False with a STATUS. */
    void refused(PollBooks x, String call, boolean got, int status) {
        due(call, got, false);
        due("status() behind " + call, x.status(), status);
    }

    void end() {
        System.out.println(asDue + " answers as due, " + wrong + " not");
        if (wrong != 0) {
            System.exit(1);
        }
    }

    /** A WORD as the number that NAMES are. */
    static long name(String word) {
        long v = 0;
        for (char c : word.toCharArray()) {
            v = v * 32 + c - 'a' + 1;
        }
        return v;
    }

    /** Puts a text on the tape, padded with 0s; tells its length. */
    static int onTape(PollBooks x, String text) {
        byte[] bytes = text.getBytes(StandardCharsets.ISO_8859_1);
        for (int i = 0; i < bytes.length; i += 20) {
            int[] five = five(bytes, i);
            x.feed(five[0], five[1], five[2], five[3], five[4]);
        }
        return bytes.length;
    }

    static int[] five(byte[] bytes, int from) {
        int[] five = new int[5];
        for (int i = 0; i < 20; i++) {
            int b = from + i < bytes.length ? bytes[from + i] & 255 : 0;
            five[i / 4] = five[i / 4] << 8 | b;
        }
        return five;
    }

    static int text(PollBooks x, String text, int day, int places) {
        return x.text(onTape(x, text), day, places);
    }
}
