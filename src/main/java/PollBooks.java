import java.util.Arrays;

/** An open election of old and the house that tries it; the document's promises tell what each call does. */
public final class PollBooks {
    public static final int NONE = -1;

    private static final int FINE = 0;
    private static final int CANNOT_BE = 1;
    private static final int MISSING = 2;
    private static final int NO_PLACE = 3;
    private static final int TOO_MANY = 4;
    private static final int GONE = 5;
    private static final int NONE_SUCH = 6;
    private static final int ALREADY = 7;
    private static final int UNLIKE = 8;
    private static final int FAULTY = 9;

    private static final int LAST_DAY = 9999;
    private static final int LAST_MINUTE = 1439;
    private static final int PLACES = 7;
    private static final int TRADES = 20;
    private static final int CANDIDATES = 4;
    private static final int ALL_CANDIDATES = 15;
    private static final int ALL_PLACES = 127;
    private static final int MOST_SHILLINGS = 1000;
    private static final int MOST_MILES = 1000;
    private static final int LAST_PLOT = 39;
    private static final int LAST_KIN = 20;
    private static final int MOST_REACH = 30;
    private static final int MOST_ROOM = 20;
    private static final int MOST_WAIT = 100;

    private static final int MOST_LETTERS = 8;
    private static final int LETTER_BITS = 5;
    private static final int LETTER_MASK = 31;
    private static final int LETTER_Z = 26;

    private int status;
    private final Trays trays;
    private final People people;
    private final Records records;
    private final Parser parser;
    private final Laws laws;
    private final Books books;
    private final Poll poll;
    private final Grounds grounds;
    private final Jury jury;
    private final Roads roads;
    private final int[] spellingRow;
    private final long[] facts;

    public PollBooks() {
        status = FINE;
        trays = new Trays();
        people = new People();
        records = new Records(people);
        parser = new Parser();
        laws = new Laws(records);
        books = new Books();
        poll = new Poll(people, books, laws);
        grounds = new Grounds(books, poll);
        jury = new Jury();
        roads = new Roads();
        spellingRow = new int[MOST_LETTERS + 1];
        facts = new long[Records.FACTS];
    }

    public int status() {
        return status;
    }

    // ---- TRAYS

    public boolean tray(int tray, int sort, int many) {
        boolean can = trays.canBe(tray) && within(sort, 0, 3) && within(many, 0, Trays.LONGEST);
        status = can ? FINE : CANNOT_BE;
        if (can) {
            trays.lay(tray, sort, many);
        }
        return can;
    }

    public boolean write(int tray, int place, long v) {
        status = trayPlaceStatus(tray, place);
        if (status == FINE) {
            trays.put(tray, place, v);
        }
        return status == FINE;
    }

    public long read(int tray, int place) {
        status = trayPlaceStatus(tray, place);
        return status == FINE ? trays.at(tray, place) : NONE;
    }

    public boolean pour(int from, int place, int to, int at, int many) {
        status = pourStatus(from, place, to, at, many);
        if (status == FINE) {
            trays.move(from, place, to, at, many);
        }
        return status == FINE;
    }

    private int trayPlaceStatus(int tray, int place) {
        if (!trays.canBe(tray)) {
            return CANNOT_BE;
        }
        if (!trays.isThere(tray)) {
            return MISSING;
        }
        return trays.reaches(tray, place, 1) ? FINE : NO_PLACE;
    }

    private int pourStatus(int from, int place, int to, int at, int many) {
        if (!trays.canBe(from) || !trays.canBe(to) || place < 0 || at < 0 || many < 0) {
            return CANNOT_BE;
        }
        if (!trays.isThere(from) || !trays.isThere(to)) {
            return MISSING;
        }
        if (!trays.alike(from, to)) {
            return UNLIKE;
        }
        return trays.reaches(from, place, many) && trays.reaches(to, at, many) ? FINE : NO_PLACE;
    }

    // ---- PERSONS, land, sums

    public int far(long name, long other) {
        status = isName(name) && isName(other) ? FINE : CANNOT_BE;
        return status == FINE ? lettersApart(name, other, spellingRow) : NONE;
    }

    public int person(long name, int trade, int home) {
        boolean can = isName(name) && within(trade, 0, TRADES - 1) && isPlace(home);
        status = !can ? CANNOT_BE : people.isFull() ? TOO_MANY : FINE;
        if (status != FINE) {
            return NONE;
        }
        int person = people.add(name, trade, home);
        poll.meetPerson(person);
        return person;
    }

    public boolean hold(int person, int plot, int shillings, int from, int to, int known) {
        boolean can = people.has(person) && within(plot, 0, LAST_PLOT) && within(shillings, 1, MOST_SHILLINGS)
            && isDay(from) && isDay(to) && from <= to && isDay(known);
        status = recordStatus(can, records.holdingsFull(), known);
        if (status == FINE) {
            records.addHolding(person, plot, shillings, from, to, known);
        }
        return status == FINE;
    }

    public boolean split(int plot, int day, int known) {
        boolean can = within(plot, 0, LAST_PLOT) && isDay(day) && isDay(known);
        status = recordStatus(can, records.splitsFull(), known);
        if (status == FINE) {
            records.addSplit(plot, day, known);
        }
        return status == FINE;
    }

    public boolean pay(int person, int shillings, int day, boolean proved, int known) {
        boolean can = people.has(person) && within(shillings, 1, MOST_SHILLINGS) && isDay(day) && isDay(known);
        status = recordStatus(can, records.paymentsFull(), known);
        if (status == FINE) {
            records.addPayment(person, shillings, day, proved, known);
        }
        return status == FINE;
    }

    public boolean asof(int day) {
        status = isDay(day) ? FINE : CANNOT_BE;
        if (status == FINE) {
            records.lookBackFrom(day);
        }
        return status == FINE;
    }

    public int fact(int person, int place, int day, int what) {
        boolean can = people.has(person) && isPlace(place) && isDay(day) && within(what, 0, Records.FACTS - 1);
        status = can ? FINE : CANNOT_BE;
        if (!can) {
            return NONE;
        }
        records.tell(person, place, day, facts);
        return (int) facts[what];
    }

    private int recordStatus(boolean can, boolean full, int known) {
        if (!can) {
            return CANNOT_BE;
        }
        if (full) {
            return TOO_MANY;
        }
        return records.isGone(known) ? GONE : FINE;
    }

    // ---- TEXTS

    public int feed(int a, int b, int c, int d, int e) {
        if (!parser.hasRoom()) {
            return NONE;
        }
        parser.append(a);
        parser.append(b);
        parser.append(c);
        parser.append(d);
        parser.append(e);
        return parser.taped();
    }

    public int text(int n, int day, int places) {
        boolean can = within(n, 0, parser.taped()) && isDay(day) && within(places, 1, ALL_PLACES);
        status = !can ? CANNOT_BE : laws.isFull() ? TOO_MANY : FINE;
        if (status != FINE) {
            return NONE;
        }
        Statute made = parser.take(n);
        if (made == null) {
            status = FAULTY;
            return NONE;
        }
        laws.enact(made, day, places);
        return made.count;
    }

    public int fault(int what) {
        return what == 0 ? parser.faultKind() : what == 1 ? parser.faultPlace() : NONE;
    }

    public int rules(int place, int day) {
        status = isPlace(place) && isDay(day) ? FINE : CANNOT_BE;
        return status == FINE ? laws.countAt(place, day) : NONE;
    }

    public int struck(int place, int day, int rule) {
        boolean can = isPlace(place) && isDay(day) && rule >= 0 && rule < laws.countAt(place, day);
        status = can ? FINE : CANNOT_BE;
        return can ? bit(laws.isStruck(rule)) : NONE;
    }

    public int right(int person, int place, int day, int minute) {
        status = comerStatus(person, place, day, minute);
        if (status != FINE) {
            return NONE;
        }
        laws.bring(person, place, day, minute);
        return laws.rightNow();
    }

    public int why(int person, int place, int day, int minute) {
        status = comerStatus(person, place, day, minute);
        if (status != FINE) {
            return NONE;
        }
        laws.bring(person, place, day, minute);
        int reason = laws.reasonNow();
        status = reason == NONE ? NONE_SUCH : FINE;
        return reason;
    }

    public int voided(int person, int place, int day, int minute) {
        status = comerStatus(person, place, day, minute);
        if (status != FINE) {
            return NONE;
        }
        laws.bring(person, place, day, minute);
        return bit(laws.voidNow());
    }

    public int names(int place, int day) {
        status = isPlace(place) && isDay(day) ? FINE : CANNOT_BE;
        return status == FINE ? laws.namesAt(place, day) : NONE;
    }

    private int comerStatus(int person, int place, int day, int minute) {
        return people.has(person) && isPlace(place) && isDay(day) && isMinute(minute) ? FINE : CANNOT_BE;
    }

    // ---- BOOKS

    public int entry(int book, long name, int trade, int minute, int set) {
        boolean can = within(book, 0, 2) && isName(name) && within(trade, NONE, TRADES - 1)
            && isMinute(minute) && isSet(set);
        status = !can ? CANNOT_BE : books.isFull(book) ? TOO_MANY : FINE;
        if (status != FINE) {
            return NONE;
        }
        int entry = books.add(book, name, trade, minute, set);
        if (book == 0) {
            poll.meetEntry(entry);
        }
        return entry;
    }

    public int join(int book) {
        status = within(book, 1, 2) ? FINE : CANNOT_BE;
        return status == FINE ? books.totalCost(book) : NONE;
    }

    public int mate(int book, int entry) {
        boolean can = within(book, 1, 2) && books.has(0, entry);
        int found = can ? books.mateOf(book, entry) : NONE;
        status = !can ? CANNOT_BE : found == NONE ? NONE_SUCH : FINE;
        return found;
    }

    public int joined(int entry) {
        status = books.has(0, entry) ? FINE : CANNOT_BE;
        return status == FINE ? books.joinedSet(entry) : NONE;
    }

    public int tally(int book, int candidate) {
        status = within(book, 0, 3) && isCandidate(candidate) ? FINE : CANNOT_BE;
        if (status != FINE) {
            return NONE;
        }
        return book == 3 ? books.countJoined(candidate) : books.countWritten(book, candidate);
    }

    public boolean reach(int much) {
        status = within(much, 0, MOST_REACH) ? FINE : CANNOT_BE;
        if (status == FINE) {
            poll.reachTo(much);
        }
        return status == FINE;
    }

    public int who(int entry) {
        boolean can = books.has(0, entry);
        int found = can ? poll.personOf(entry) : NONE;
        status = !can ? CANNOT_BE : found == NONE ? NONE_SUCH : FINE;
        return found;
    }

    public int sure(int entry, int what) {
        boolean can = books.has(0, entry) && within(what, 0, 1);
        status = !can ? CANNOT_BE : poll.personOf(entry) == NONE ? NONE_SUCH : FINE;
        if (status != FINE) {
            return NONE;
        }
        return bit(what == 0 ? poll.isSure(entry) : poll.isTwice(entry));
    }

    public int offer(int person, int set, int minute) {
        boolean can = people.has(person) && isSet(set) && isMinute(minute);
        status = !can ? CANNOT_BE : poll.offersFull() ? TOO_MANY : FINE;
        return status == FINE ? poll.addOffer(person, set, minute) : NONE;
    }

    // ---- the POLL

    public int standing(int entry, int place, int day) {
        status = books.has(0, entry) && isPlace(place) && isDay(day) ? FINE : CANNOT_BE;
        return status == FINE ? poll.entryStanding(entry, place, day) : NONE;
    }

    public int stands(int offer, int place, int day) {
        status = poll.hasOffer(offer) && isPlace(place) && isDay(day) ? FINE : CANNOT_BE;
        if (status != FINE) {
            return NONE;
        }
        long voted = poll.countEntries(place, day);
        return poll.countOffers(voted, offer + 1, place, day);
    }

    public int poll(int candidate, int place, int day, boolean offers) {
        status = isCandidate(candidate) && isPlace(place) && isDay(day) ? FINE : CANNOT_BE;
        if (status != FINE) {
            return NONE;
        }
        long voted = poll.countEntries(place, day);
        poll.countOffers(voted, offers ? poll.offerCount : 0, place, day);
        return poll.sums[candidate];
    }

    public int seated(int k, int place, int day, boolean offers) {
        status = within(k, 0, 1) && isPlace(place) && isDay(day) ? FINE : CANNOT_BE;
        if (status != FINE) {
            return NONE;
        }
        long voted = poll.countEntries(place, day);
        poll.countOffers(voted, offers ? poll.offerCount : 0, place, day);
        return candidateAt(poll.sums, k);
    }

    // ---- GROUNDS

    public int ground(boolean on, int which) {
        if (on ? !poll.hasOffer(which) : !books.has(0, which)) {
            status = CANNOT_BE;
        } else if (grounds.isFull()) {
            status = TOO_MANY;
        } else {
            status = grounds.isTold(on, which) ? ALREADY : FINE;
        }
        return status == FINE ? grounds.add(on, which) : NONE;
    }

    public boolean against(int a, int b) {
        boolean can = grounds.has(a) && grounds.has(b) && a != b;
        status = !can ? CANNOT_BE : grounds.areRivals(a, b) ? ALREADY : FINE;
        if (status == FINE) {
            grounds.setRivals(a, b);
        }
        return status == FINE;
    }

    public int written(int candidate, int set) {
        status = isCandidate(candidate) && grounds.isSetOfThem(set) ? FINE : CANNOT_BE;
        return status == FINE ? grounds.countWith(set)[candidate] : NONE;
    }

    public int turns(int candidate, int what) {
        boolean can = isCandidate(candidate) && within(what, 0, 2);
        boolean found = can && grounds.search(candidate);
        status = !can ? CANNOT_BE : found ? FINE : NONE_SUCH;
        if (status != FINE) {
            return NONE;
        }
        return what == 0 ? grounds.fewest() : what == 1 ? grounds.rivals() : grounds.first();
    }

    // ---- MEMBERS, COACHES

    public int member(int lean, int kin) {
        boolean can = within(lean, -9, 9) && within(kin, 0, LAST_KIN);
        status = !can ? CANNOT_BE : jury.isFull() ? TOO_MANY : FINE;
        return status == FINE ? jury.add(lean, kin) : NONE;
    }

    public boolean kin(int candidate, int kin) {
        status = isCandidate(candidate) && within(kin, 0, LAST_KIN) ? FINE : CANNOT_BE;
        if (status == FINE) {
            jury.tellKin(candidate, kin);
        }
        return status == FINE;
    }

    public int draw(int n, int m, int seed) {
        boolean can = within(n, 1, Jury.MOST) && within(m, 0, n) && seed >= 0;
        boolean drawn = can && jury.form(n, m, seed);
        status = !can ? CANNOT_BE : drawn ? FINE : NONE_SUCH;
        return status == FINE ? jury.leanOfBench() : NONE;
    }

    public int bench(int k) {
        status = k < 0 ? CANNOT_BE : k < jury.benchSize() ? FINE : NONE_SUCH;
        return status == FINE ? jury.benchAt(k) : NONE;
    }

    public boolean miles(int a, int b, int much) {
        boolean can = isPlace(a) && isPlace(b) && a != b && within(much, 1, MOST_MILES);
        status = can ? FINE : CANNOT_BE;
        if (can) {
            roads.setMiles(a, b, much);
        }
        return can;
    }

    public int coaches(int place, int tray, int room) {
        status = coachStatus(place, tray, room);
        if (status != FINE) {
            return NONE;
        }
        for (int p = 0; p < PLACES; p++) {
            roads.setWaiting(p, p == place ? 0 : (int) trays.at(tray, p));
        }
        return roads.send(place, room);
    }

    public int coachMany() {
        int many = roads.coachesSent();
        status = many == NONE ? NONE_SUCH : FINE;
        return many;
    }

    private int coachStatus(int place, int tray, int room) {
        if (!isPlace(place) || !trays.canBe(tray) || !within(room, 1, MOST_ROOM)) {
            return CANNOT_BE;
        }
        if (!trays.isThere(tray)) {
            return MISSING;
        }
        if (!trays.reaches(tray, 0, PLACES)) {
            return NO_PLACE;
        }
        for (int p = 0; p < PLACES; p++) {
            if (!within(trays.at(tray, p), 0, MOST_WAIT)) {
                return CANNOT_BE;
            }
        }
        return FINE;
    }

    // ---- what the parts share

    private static boolean within(long v, long least, long most) {
        return v >= least && v <= most;
    }

    private static boolean isDay(int day) {
        return within(day, 0, LAST_DAY);
    }

    private static boolean isMinute(int minute) {
        return within(minute, 0, LAST_MINUTE);
    }

    private static boolean isPlace(int place) {
        return within(place, 0, PLACES - 1);
    }

    private static boolean isCandidate(int candidate) {
        return within(candidate, 0, CANDIDATES - 1);
    }

    private static boolean isSet(int set) {
        return within(set, 1, ALL_CANDIDATES);
    }

    private static int bit(boolean holds) {
        return holds ? 1 : 0;
    }

    private static boolean isName(long name) {
        long rest = name;
        for (int i = 0; i < MOST_LETTERS && rest != 0; i++) {
            if (!within(rest & LETTER_MASK, 1, LETTER_Z)) {
                return false;
            }
            rest >>>= LETTER_BITS;
        }
        return name != 0 && rest == 0;
    }

    private static int lettersOf(long name) {
        int letters = 0;
        while (letters < MOST_LETTERS && name >> (LETTER_BITS * letters) != 0) {
            letters++;
        }
        return letters;
    }

    /** FAR, with a row of nine numbers to work in, so that no call makes one. */
    private static int lettersApart(long name, long other, int[] row) {
        int height = lettersOf(name);
        int width = Math.min(lettersOf(other), row.length - 1);
        for (int j = 0; j <= width; j++) {
            row[j] = j;
        }
        for (int i = 1; i <= height; i++) {
            long letter = name >> (LETTER_BITS * (height - i)) & LETTER_MASK;
            int corner = row[0];
            row[0] = i;
            for (int j = 1; j <= width; j++) {
                boolean same = letter == (other >> (LETTER_BITS * (width - j)) & LETTER_MASK);
                int replaced = corner + (same ? 0 : 1);
                corner = row[j];
                row[j] = Math.min(replaced, Math.min(row[j], row[j - 1]) + 1);
            }
        }
        return row[width];
    }

    /** How many CANDIDATES go ahead of one: it is SEATED below two. */
    private static int rankOf(int[] sums, int candidate) {
        int ahead = 0;
        for (int c = 0; c < CANDIDATES; c++) {
            if (sums[c] > sums[candidate] || sums[c] == sums[candidate] && c < candidate) {
                ahead++;
            }
        }
        return ahead;
    }

    private static int candidateAt(int[] sums, int rank) {
        for (int c = 0; c < CANDIDATES; c++) {
            if (rankOf(sums, c) == rank) {
                return c;
            }
        }
        return NONE;
    }

    private static void addSet(int[] sums, int set, int much) {
        for (int c = 0; c < CANDIDATES; c++) {
            sums[c] += (set >> c & 1) * much;
        }
    }

    /** TRAYS; a number is kept as the long that its bits are worth. */
    private static final class Trays {
        static final int LONGEST = 60;
        private static final int MANY = 4;

        private final long[] numbers = new long[MANY * LONGEST];
        private final int[] sorts = new int[MANY];
        private final int[] sizes = new int[MANY];

        Trays() {
            Arrays.fill(sizes, NONE);
        }

        boolean canBe(int tray) {
            return tray >= 0 && tray < MANY;
        }

        boolean isThere(int tray) {
            return sizes[tray] != NONE;
        }

        boolean alike(int tray, int other) {
            return sorts[tray] == sorts[other];
        }

        boolean reaches(int tray, int place, int many) {
            return place >= 0 && (long) place + many <= sizes[tray];
        }

        void lay(int tray, int sort, int many) {
            sorts[tray] = sort;
            sizes[tray] = many;
            Arrays.fill(numbers, tray * LONGEST, tray * LONGEST + many, 0);
        }

        void put(int tray, int place, long v) {
            numbers[tray * LONGEST + place] = cut(sorts[tray], v);
        }

        long at(int tray, int place) {
            return numbers[tray * LONGEST + place];
        }

        void move(int from, int place, int to, int at, int many) {
            System.arraycopy(numbers, from * LONGEST + place, numbers, to * LONGEST + at, many);
        }

        private static long cut(int sort, long v) {
            switch (sort) {
                case 0:
                    return (byte) v;
                case 1:
                    return (short) v;
                case 2:
                    return (int) v;
                default:
                    return v;
            }
        }
    }

    /** PERSONS. */
    private static final class People {
        private static final int MOST = 40;

        private final long[] names = new long[MOST];
        private final int[] trades = new int[MOST];
        private final int[] homes = new int[MOST];
        private int count;

        boolean isFull() {
            return count >= MOST;
        }

        boolean has(int person) {
            return person >= 0 && person < count;
        }

        int add(long name, int trade, int home) {
            names[count] = name;
            trades[count] = trade;
            homes[count] = home;
            count++;
            return count - 1;
        }
    }

    /** HOLDINGS, SPLITS and PAYMENTS, and what they say of a PERSON AS OF a DAY. */
    private static final class Records {
        /** How many VARIABLES fact() tells: all but minute and day. */
        static final int FACTS = 7;
        static final int LAND = 0;
        static final int PLOTS = 1;
        static final int HELD = 2;
        static final int SPLIT = 3;
        static final int TRADE = 4;
        static final int HOME = 5;
        static final int PAID = 6;
        private static final int MOST_HOLDINGS = 80;
        private static final int MOST_SPLITS = 30;
        private static final int MOST_PAYMENTS = 60;
        private static final int NEVER_SPLIT = 9999;

        private final People people;
        private int asOf = LAST_DAY;
        private int lastKnown;

        private final int[] holders = new int[MOST_HOLDINGS];
        private final int[] plots = new int[MOST_HOLDINGS];
        private final int[] worths = new int[MOST_HOLDINGS];
        private final int[] firstDays = new int[MOST_HOLDINGS];
        private final int[] lastDays = new int[MOST_HOLDINGS];
        private final int[] holdingsKnown = new int[MOST_HOLDINGS];
        private int holdings;

        private final int[] splitPlots = new int[MOST_SPLITS];
        private final int[] splitDays = new int[MOST_SPLITS];
        private final int[] splitsKnown = new int[MOST_SPLITS];
        private int splits;

        private final int[] payees = new int[MOST_PAYMENTS];
        private final int[] provedSums = new int[MOST_PAYMENTS];
        private final int[] payDays = new int[MOST_PAYMENTS];
        private final int[] paymentsKnown = new int[MOST_PAYMENTS];
        private int payments;

        Records(People people) {
            this.people = people;
        }

        boolean holdingsFull() {
            return holdings >= MOST_HOLDINGS;
        }

        boolean splitsFull() {
            return splits >= MOST_SPLITS;
        }

        boolean paymentsFull() {
            return payments >= MOST_PAYMENTS;
        }

        boolean isGone(int known) {
            return known < lastKnown;
        }

        void lookBackFrom(int day) {
            asOf = day;
        }

        void addHolding(int person, int plot, int shillings, int from, int to, int known) {
            holders[holdings] = person;
            plots[holdings] = plot;
            worths[holdings] = shillings;
            firstDays[holdings] = from;
            lastDays[holdings] = to;
            holdingsKnown[holdings] = known;
            holdings++;
            lastKnown = known;
        }

        void addSplit(int plot, int day, int known) {
            splitPlots[splits] = plot;
            splitDays[splits] = day;
            splitsKnown[splits] = known;
            splits++;
            lastKnown = known;
        }

        void addPayment(int person, int shillings, int day, boolean proved, int known) {
            payees[payments] = person;
            // what is not proved never counts, but takes up its place and its DAY
            provedSums[payments] = proved ? shillings : 0;
            payDays[payments] = day;
            paymentsKnown[payments] = known;
            payments++;
            lastKnown = known;
        }

        /** Puts the facts of a PERSON into the first places of a row of VARIABLES. */
        void tell(int person, int place, int day, long[] facts) {
            long plotsHeld = tellLand(person, day, facts);
            facts[SPLIT] = sinceSplit(plotsHeld, day);
            facts[TRADE] = people.trades[person];
            facts[HOME] = bit(people.homes[person] == place);
            facts[PAID] = paidBy(person, day);
        }

        /** Tells, as bits, which PLOTS these are. */
        private long tellLand(int person, int day, long[] facts) {
            long land = 0;
            long held = 0;
            int many = 0;
            long plotBits = 0;
            for (int i = 0; i < holdings; i++) {
                if (holders[i] == person && firstDays[i] <= day && day <= lastDays[i] && holdingsKnown[i] <= asOf) {
                    land += worths[i];
                    held = Math.max(held, day - firstDays[i]);
                    many++;
                    plotBits |= 1L << plots[i];
                }
            }
            facts[LAND] = land;
            facts[PLOTS] = many;
            facts[HELD] = held;
            return plotBits;
        }

        private int sinceSplit(long plotBits, int day) {
            int fewest = NEVER_SPLIT;
            for (int i = 0; i < splits; i++) {
                boolean ofThese = (plotBits >> splitPlots[i] & 1) != 0;
                if (ofThese && splitDays[i] <= day && splitsKnown[i] <= asOf) {
                    fewest = Math.min(fewest, day - splitDays[i]);
                }
            }
            return fewest;
        }

        private int paidBy(int person, int day) {
            int paid = 0;
            for (int i = 0; i < payments; i++) {
                if (payees[i] == person && payDays[i] <= day && paymentsKnown[i] <= asOf) {
                    paid += provedSums[i];
                }
            }
            return paid;
        }
    }

    /** A TEXT: its RULES, and the code of all their TESTS one behind the other. */
    private static final class Statute {
        static final int MOST_RULES = 20;

        private int day;
        private int places;
        private int count;
        private int codeLength;
        private final long[] labels = new long[MOST_RULES];
        /** The LABEL that a RULE strikes; no LABEL is 0. */
        private final long[] targets = new long[MOST_RULES];
        private final int[] does = new int[MOST_RULES];
        /** Of names the number, of hours both, of a TEST where its code begins and ends. */
        private final int[] firsts = new int[MOST_RULES];
        private final int[] seconds = new int[MOST_RULES];
        private final int[] code = new int[Parser.LONGEST];

        void clear() {
            count = 0;
            codeLength = 0;
        }

        boolean hasLabel(long label) {
            for (int i = 0; i < count; i++) {
                if (labels[i] == label) {
                    return true;
                }
            }
            return false;
        }

        void openRule(long label, long target) {
            if (count < MOST_RULES) {
                labels[count] = label;
                targets[count] = target;
            }
        }

        void closeRule(int verb, int first, int second) {
            if (count < MOST_RULES) {
                does[count] = verb;
                firsts[count] = first;
                seconds[count] = second;
                count++;
            }
        }

        void addCode(int step) {
            if (codeLength < code.length) {
                code[codeLength] = step;
                codeLength++;
            }
        }

        boolean isInForce(int place, int onDay) {
            return day <= onDay && (places >> place & 1) != 0;
        }
    }

    /** The tape, and how its bytes become TOKENS and these a TEXT. */
    private static final class Parser {
        static final int LONGEST = 600;
        private static final int FEED = 20;
        private static final int DEEPEST = 6;
        private static final int MOST_DIGITS = 5;
        private static final int MOST_NAMES = 4;

        // kinds of TOKENS; a SIGN's kind is its byte
        static final int END = 0;
        static final int BAD = 1;
        static final int NUMBER = 2;
        static final int LABEL = 3;
        static final int VARIABLE = 4;
        static final int LONG_WORD = 5;
        static final int FIRST_KEYWORD = 16;
        static final int STRIKES = 16;
        static final int MAY = 17;
        static final int UNLESS = 18;
        static final int BAR = 19;
        static final int VOID = 20;
        static final int NAMES = 21;
        static final int HOURS = 22;
        static final int TO = 23;
        static final int OR = 24;
        static final int AND = 25;
        static final int NOT = 26;

        /** Code below it is a VARIABLE or an operation, by its kind; from it on a NUMBER. */
        static final int CODE_NUMBERS = 128;

        // WORDS as NAMES are: 5 bits a letter
        private static final long[] KEYWORDS = {
            21091364019L, 13369, 719722099, 2098, 736548, // strikes may unless bar void
            14726323, 8902227, 655, 498, 1476, 14836, // names hours to or and not
        };
        private static final long[] VARIABLES = {
            394692, 17186451, 267652, 20459828, // land plots held split
            21562501, 277925, 525604, 446125701, 4153, // trade home paid minute day
        };

        private static final int NO_TOKEN = 1;
        private static final int CANNOT_STAND = 2;
        private static final int RULE_TOO_MANY = 3;
        private static final int LABEL_AGAIN = 4;
        private static final int TOO_DEEP = 5;
        private static final int NUMBER_CANNOT_BE = 6;

        private final byte[] tape = new byte[LONGEST];
        private int taped;
        private final int[] kinds = new int[LONGEST + 1];
        private final long[] values = new long[LONGEST + 1];
        private final int[] starts = new int[LONGEST + 1];
        private int at;
        private Statute draft = new Statute();
        private int faultKind = NONE;
        private int faultPlace = NONE;

        boolean hasRoom() {
            return taped + FEED <= LONGEST;
        }

        void append(int four) {
            for (int shift = 24; shift >= 0 && taped < LONGEST; shift -= 8) {
                tape[taped] = (byte) (four >> shift);
                taped++;
            }
        }

        int taped() {
            return taped;
        }

        int faultKind() {
            return faultKind;
        }

        int faultPlace() {
            return faultPlace;
        }

        /** The TEXT of the tape's first bytes, null with a FAULT; a draft with a FAULT is used again. */
        Statute take(int length) {
            draft.clear();
            taped = 0;
            faultKind = 0;
            faultPlace = NONE;
            at = 0;
            scan(length);
            boolean fine = true;
            for (int i = 0; i <= Statute.MOST_RULES && fine && kind() != END; i++) {
                fine = takeRule();
            }
            if (!fine) {
                return null;
            }
            Statute taken = draft;
            draft = new Statute();
            return taken;
        }

        private void scan(int length) {
            int tokens = 0;
            int place = 0;
            for (int i = 0; i < length && place < length; i++) {
                int c = tape[place];
                if (c == 10 || c == 32) {
                    place++;
                } else {
                    int end = endOfRun(place, length);
                    starts[tokens] = place;
                    scanToken(tokens, place, end);
                    place = end;
                    tokens++;
                }
            }
            kinds[tokens] = END;
            starts[tokens] = length;
        }

        private static boolean isLetter(int c) {
            return c >= 'a' && c <= 'z';
        }

        private static boolean isDigit(int c) {
            return c >= '0' && c <= '9';
        }

        private int endOfRun(int place, int length) {
            boolean word = isLetter(tape[place]);
            int end = place + 1;
            if (word || isDigit(tape[place])) {
                while (end < length && (word ? isLetter(tape[end]) : isDigit(tape[end]))) {
                    end++;
                }
            }
            return end;
        }

        private void scanToken(int token, int place, int end) {
            int c = tape[place];
            values[token] = 0;
            if (isLetter(c)) {
                scanWord(token, place, end);
            } else if (isDigit(c)) {
                kinds[token] = end - place > MOST_DIGITS ? BAD : NUMBER;
                for (int i = place; i < end; i++) {
                    values[token] = values[token] * 10 + tape[i] - '0';
                }
            } else {
                boolean sign = c >= '(' && c <= '+' || c == '-' || c >= ':' && c <= '>';
                kinds[token] = sign ? c : BAD;
            }
        }

        private void scanWord(int token, int place, int end) {
            if (end - place > MOST_LETTERS) {
                kinds[token] = LONG_WORD;
                return;
            }
            long word = 0;
            for (int i = place; i < end; i++) {
                word = (word << LETTER_BITS) + tape[i] - 'a' + 1;
            }
            int keyword = indexIn(KEYWORDS, word);
            int variable = indexIn(VARIABLES, word);
            if (keyword != NONE) {
                kinds[token] = FIRST_KEYWORD + keyword;
            } else {
                kinds[token] = variable != NONE ? VARIABLE : LABEL;
                values[token] = variable != NONE ? variable : word;
            }
        }

        private static int indexIn(long[] words, long word) {
            for (int i = 0; i < words.length; i++) {
                if (words[i] == word) {
                    return i;
                }
            }
            return NONE;
        }

        private int kind() {
            return kinds[at];
        }

        /** Goes by the TOKEN here; nothing stands behind the end. */
        private void next() {
            if (kinds[at] != END && at < LONGEST) {
                at++;
            }
        }

        private boolean refuse(int fault) {
            faultKind = kinds[at] == BAD ? NO_TOKEN : fault;
            faultPlace = starts[at];
            return false;
        }

        private boolean passes(int kind) {
            if (kinds[at] != kind) {
                return refuse(CANNOT_STAND);
            }
            next();
            return true;
        }

        /** The NUMBER here; NONE if it is none, or can't be. */
        private int takeNumber(int least, int most) {
            long value = values[at];
            if (kinds[at] != NUMBER) {
                refuse(CANNOT_STAND);
                return NONE;
            }
            if (value < least || value > most) {
                refuse(NUMBER_CANNOT_BE);
                return NONE;
            }
            next();
            return (int) value;
        }

        private boolean takeRule() {
            if (!takeLabels() || !passes(':')) {
                return false;
            }
            switch (kind()) {
                case MAY:
                case BAR:
                case VOID:
                    return takeTests() && passes(';');
                case NAMES:
                    return takeNames() && passes(';');
                case HOURS:
                    return takeHours() && passes(';');
                default:
                    return refuse(CANNOT_STAND);
            }
        }

        private boolean takeLabels() {
            long label = values[at];
            if (kind() != LABEL) {
                return refuse(CANNOT_STAND);
            }
            if (draft.count >= Statute.MOST_RULES) {
                return refuse(RULE_TOO_MANY);
            }
            if (draft.hasLabel(label)) {
                return refuse(LABEL_AGAIN);
            }
            next();
            long target = 0;
            if (kind() == STRIKES) {
                next();
                target = values[at];
                if (!passes(LABEL)) {
                    return false;
                }
            }
            draft.openRule(label, target);
            return true;
        }

        private boolean takeNames() {
            next();
            int names = takeNumber(1, MOST_NAMES);
            draft.closeRule(NAMES, names, NONE);
            return names != NONE;
        }

        private boolean takeHours() {
            next();
            int first = takeNumber(0, LAST_MINUTE);
            if (first == NONE || !passes(TO)) {
                return false;
            }
            int second = takeNumber(first, LAST_MINUTE);
            draft.closeRule(HOURS, first, second);
            return second != NONE;
        }

        private boolean takeTests() {
            int verb = kind();
            int begin = draft.codeLength;
            next();
            if (!takeTest()) {
                return false;
            }
            if (kind() == UNLESS) {
                next();
                if (!takeTest()) {
                    return false;
                }
                draft.addCode(NOT);
                draft.addCode(AND);
            }
            draft.closeRule(verb, begin, draft.codeLength);
            return true;
        }

        /** TEST, PART and ONE in one loop: an open and is closed at once, an open or when no and follows. */
        private boolean takeTest() {
            boolean andOpen = false;
            boolean orOpen = false;
            for (int i = 0; i < LONGEST; i++) {
                boolean denied = kind() == NOT;
                if (denied) {
                    next();
                }
                if (!takeSum(0)) {
                    return false;
                }
                int compares = kind();
                if (compares != '<' && compares != '>' && compares != '=') {
                    return refuse(CANNOT_STAND);
                }
                next();
                if (!takeSum(0)) {
                    return false;
                }
                draft.addCode(compares);
                if (denied) {
                    draft.addCode(NOT);
                }
                if (andOpen) {
                    draft.addCode(AND);
                }
                andOpen = kind() == AND;
                if (!andOpen) {
                    if (orOpen) {
                        draft.addCode(OR);
                    }
                    orOpen = kind() == OR;
                    if (!orOpen) {
                        return true;
                    }
                }
                next();
            }
            return refuse(CANNOT_STAND);
        }

        /** SUM and ITEM in one loop: an open * is closed at once, an open + or - when no * follows. */
        private boolean takeSum(int depth) {
            boolean times = false;
            int open = NONE;
            for (int i = 0; i < LONGEST; i++) {
                if (!takeAtom(depth)) {
                    return false;
                }
                if (times) {
                    draft.addCode('*');
                }
                times = kind() == '*';
                if (!times) {
                    if (open != NONE) {
                        draft.addCode(open);
                    }
                    open = kind();
                    if (open != '+' && open != '-') {
                        return true;
                    }
                }
                next();
            }
            return refuse(CANNOT_STAND);
        }

        private boolean takeAtom(int depth) {
            int kind = kind();
            if (kind == NUMBER || kind == VARIABLE) {
                int value = (int) values[at];
                draft.addCode(kind == NUMBER ? CODE_NUMBERS + value : value);
                next();
                return true;
            }
            if (kind != '(') {
                return refuse(CANNOT_STAND);
            }
            if (depth >= DEEPEST) {
                return refuse(TOO_DEEP);
            }
            next();
            if (!takeSum(depth + 1)) {
                return false;
            }
            if (kind() != ')') {
                return refuse(CANNOT_STAND);
            }
            next();
            return true;
        }
    }

    /** The TEXTS in force, and what their RULES say of one who comes. */
    private static final class Laws {
        private static final int MOST = 5;
        private static final int MOST_STANDING = MOST * Statute.MOST_RULES;
        private static final int MINUTE = 7;
        private static final int DAY = 8;
        private static final int VARIABLES = 9;
        private static final int USUAL_NAMES = 2;
        /** Two open SUMS or ITEMS for each bracket, and some for the TEST around them. */
        private static final int STACK = 32;

        private final Records records;
        /** By the DAY they began, of like ones as they were told. */
        private final Statute[] statutes = new Statute[MOST];
        private int count;

        private final Statute[] owners = new Statute[MOST_STANDING];
        private final int[] rulesThere = new int[MOST_STANDING];
        private final boolean[] struckThere = new boolean[MOST_STANDING];
        private int standingCount;
        private int gatheredPlace = NONE;
        private int gatheredDay = NONE;

        private final long[] variables = new long[VARIABLES];
        private final long[] stack = new long[STACK];

        Laws(Records records) {
            this.records = records;
        }

        boolean isFull() {
            return count >= MOST;
        }

        void enact(Statute made, int day, int places) {
            made.day = day;
            made.places = places;
            int slot = count;
            while (slot > 0 && beginsBehind(statutes[slot - 1], day)) {
                statutes[slot] = statutes[slot - 1];
                slot--;
            }
            statutes[slot] = made;
            count++;
            gatheredPlace = NONE;
        }

        private static boolean beginsBehind(Statute statute, int day) {
            return statute != null && statute.day > day;
        }

        int countAt(int place, int day) {
            gather(place, day);
            return standingCount;
        }

        boolean isStruck(int rule) {
            return struckThere[rule];
        }

        int namesAt(int place, int day) {
            gather(place, day);
            int last = lastOf(Parser.NAMES);
            return last == NONE ? USUAL_NAMES : firstNumber(last);
        }

        /** Makes ready what rightNow, reasonNow and voidNow tell. */
        void bring(int person, int place, int day, int minute) {
            gather(place, day);
            records.tell(person, place, day, variables);
            variables[MINUTE] = minute;
            variables[DAY] = day;
        }

        int rightNow() {
            if (closedBy() != NONE) {
                return 1;
            }
            if (firstHolding(Parser.BAR) != NONE) {
                return 3;
            }
            return firstHolding(Parser.MAY) == NONE ? 2 : 0;
        }

        int reasonNow() {
            int closed = closedBy();
            if (closed != NONE) {
                return closed;
            }
            int bar = firstHolding(Parser.BAR);
            return bar != NONE ? bar : firstHolding(Parser.MAY);
        }

        boolean voidNow() {
            return firstHolding(Parser.VOID) != NONE;
        }

        /** The RULES at a PLACE on a DAY; kept, as a poll asks for them again and again. */
        private void gather(int place, int day) {
            if (place == gatheredPlace && day == gatheredDay) {
                return;
            }
            gatheredPlace = place;
            gatheredDay = day;
            standingCount = 0;
            for (int i = 0; i < count; i++) {
                Statute statute = statutes[i];
                if (statute != null && statute.isInForce(place, day)) {
                    for (int r = 0; r < statute.count && standingCount < MOST_STANDING; r++) {
                        owners[standingCount] = statute;
                        rulesThere[standingCount] = r;
                        standingCount++;
                    }
                }
            }
            for (int i = 0; i < standingCount; i++) {
                struckThere[i] = isStruckFromBehind(i);
            }
        }

        private boolean isStruckFromBehind(int rule) {
            Statute owner = owners[rule];
            if (owner == null) {
                return false;
            }
            long label = owner.labels[rulesThere[rule]];
            for (int i = rule + 1; i < standingCount; i++) {
                Statute other = owners[i];
                if (other != null && other.targets[rulesThere[i]] == label) {
                    return true;
                }
            }
            return false;
        }

        private boolean says(int rule, int verb) {
            Statute owner = owners[rule];
            return owner != null && !struckThere[rule] && owner.does[rulesThere[rule]] == verb;
        }

        private int lastOf(int verb) {
            for (int i = standingCount - 1; i >= 0; i--) {
                if (says(i, verb)) {
                    return i;
                }
            }
            return NONE;
        }

        private int firstHolding(int verb) {
            for (int i = 0; i < standingCount; i++) {
                if (says(i, verb) && holds(i)) {
                    return i;
                }
            }
            return NONE;
        }

        private int firstNumber(int rule) {
            Statute owner = owners[rule];
            return owner == null ? NONE : owner.firsts[rulesThere[rule]];
        }

        private int secondNumber(int rule) {
            Statute owner = owners[rule];
            return owner == null ? NONE : owner.seconds[rulesThere[rule]];
        }

        /** The RULE whose hours the MINUTE is out of, or NONE. */
        private int closedBy() {
            int hours = lastOf(Parser.HOURS);
            if (hours == NONE) {
                return NONE;
            }
            boolean open = within(variables[MINUTE], firstNumber(hours), secondNumber(hours));
            return open ? NONE : hours;
        }

        private boolean holds(int rule) {
            Statute owner = owners[rule];
            if (owner == null) {
                return false;
            }
            int[] code = owner.code;
            int end = Math.min(secondNumber(rule), code.length);
            int top = 0;
            for (int i = firstNumber(rule); i < end; i++) {
                int step = code[i];
                if (step >= Parser.CODE_NUMBERS || step < VARIABLES) {
                    if (top < STACK) {
                        stack[top] = step < VARIABLES ? variables[step] : step - Parser.CODE_NUMBERS;
                        top++;
                    }
                } else if (step == Parser.NOT) {
                    if (top >= 1) {
                        stack[top - 1] = 1 - stack[top - 1];
                    }
                } else if (top >= 2) {
                    top--;
                    stack[top - 1] = reckon(step, stack[top - 1], stack[top]);
                }
            }
            return top > 0 && stack[top - 1] != 0;
        }

        private static long reckon(int step, long a, long b) {
            switch (step) {
                case '+':
                    return a + b;
                case '-':
                    return a - b;
                case '*':
                    return a * b;
                case '<':
                    return a < b ? 1 : 0;
                case '>':
                    return a > b ? 1 : 0;
                case '=':
                    return a == b ? 1 : 0;
                case Parser.AND:
                    return a & b;
                default:
                    return a | b;
            }
        }
    }

    /** The three BOOKS, and how the others are JOINED to book 0. */
    private static final class Books {
        static final int MOST = 30;
        private static final int MANY = 3;
        private static final int LETTER_COST = 3;
        private static final int TRADE_COST = 2;
        private static final int LATEST_COST = 5;
        private static final int SET_COST = 4;
        private static final int LONE_COST = 10;
        private static final int WIDTH = MOST + 1;

        // an ENTRY's place in these: MOST times its BOOK and its number
        private final long[] names = new long[MANY * MOST];
        private final int[] trades = new int[MANY * MOST];
        private final int[] minutes = new int[MANY * MOST];
        private final int[] sets = new int[MANY * MOST];
        private final int[] counts = new int[MANY];

        /** COST of a pair: by BOOK 1 or 2, ENTRY of book 0, ENTRY of that one. */
        private final int[] costs = new int[(MANY - 1) * MOST * MOST];
        /** The least from an ENTRY of book 0 and one of the other BOOK on. */
        private final int[] least = new int[WIDTH * WIDTH];
        private final int[] totals = new int[MANY];
        private final int[] mates = new int[MANY * MOST];
        private final int[] joinedSets = new int[MOST];
        private boolean settled = true;
        private final int[] spellingRow = new int[MOST_LETTERS + 1];

        boolean isFull(int book) {
            return counts[book] >= MOST;
        }

        boolean has(int book, int entry) {
            return entry >= 0 && entry < counts[book];
        }

        int add(int book, long name, int trade, int minute, int set) {
            int entry = counts[book];
            int slot = book * MOST + entry;
            names[slot] = name;
            trades[slot] = trade;
            minutes[slot] = minute;
            sets[slot] = set;
            counts[book]++;
            settled = false;
            if (book == 0) {
                costAgainstOthers(entry);
            } else {
                for (int i = 0; i < counts[0]; i++) {
                    setCost(book, i, entry);
                }
            }
            return entry;
        }

        private void costAgainstOthers(int entry) {
            for (int book = 1; book < MANY; book++) {
                for (int j = 0; j < counts[book]; j++) {
                    setCost(book, entry, j);
                }
            }
        }

        private static int costPlace(int book, int entry, int other) {
            return ((book - 1) * MOST + entry) * MOST + other;
        }

        private void setCost(int book, int entry, int other) {
            int there = book * MOST + other;
            int cost = LETTER_COST * lettersApart(names[entry], names[there], spellingRow);
            if (trades[entry] != NONE && trades[there] != NONE && trades[entry] != trades[there]) {
                cost += TRADE_COST;
            }
            cost += Math.min(LATEST_COST, Math.abs(minutes[entry] - minutes[there]) / 10);
            if (sets[entry] != sets[there]) {
                cost += SET_COST;
            }
            costs[costPlace(book, entry, other)] = cost;
        }

        int totalCost(int book) {
            settle();
            return totals[book];
        }

        int mateOf(int book, int entry) {
            settle();
            return mates[book * MOST + entry];
        }

        int joinedSet(int entry) {
            settle();
            return joinedSets[entry];
        }

        int countWritten(int book, int candidate) {
            int many = 0;
            for (int i = 0; i < counts[book]; i++) {
                many += sets[book * MOST + i] >> candidate & 1;
            }
            return many;
        }

        int countJoined(int candidate) {
            settle();
            int many = 0;
            for (int i = 0; i < counts[0]; i++) {
                many += joinedSets[i] >> candidate & 1;
            }
            return many;
        }

        private void settle() {
            if (settled) {
                return;
            }
            settled = true;
            for (int book = 1; book < MANY; book++) {
                weigh(book);
                pair(book);
            }
            for (int i = 0; i < counts[0]; i++) {
                joinedSets[i] = majority(i);
            }
        }

        private void weigh(int book) {
            int mine = counts[0];
            int theirs = counts[book];
            for (int i = mine; i >= 0; i--) {
                for (int j = theirs; j >= 0; j--) {
                    int best = LONE_COST * (mine - i + theirs - j);
                    if (i < mine && j < theirs) {
                        int alone = LONE_COST + Math.min(least[(i + 1) * WIDTH + j], least[i * WIDTH + j + 1]);
                        int paired = costs[costPlace(book, i, j)] + least[(i + 1) * WIDTH + j + 1];
                        best = Math.min(alone, paired);
                    }
                    least[i * WIDTH + j] = best;
                }
            }
            totals[book] = least[0];
        }

        /** Goes along book 0, each time with the first ENTRY that still comes to the least. */
        private void pair(int book) {
            int from = 0;
            for (int i = 0; i < counts[0]; i++) {
                int found = NONE;
                for (int j = from; j < counts[book] && found == NONE; j++) {
                    int skipped = LONE_COST * (j - from);
                    int paired = costs[costPlace(book, i, j)] + least[(i + 1) * WIDTH + j + 1];
                    if (skipped + paired == least[i * WIDTH + from]) {
                        found = j;
                    }
                }
                mates[book * MOST + i] = found;
                from = found == NONE ? from : found + 1;
            }
        }

        private int majority(int entry) {
            int joined = 0;
            for (int c = 0; c < CANDIDATES; c++) {
                int having = 1;
                int saying = sets[entry] >> c & 1;
                for (int book = 1; book < MANY; book++) {
                    int mate = mates[book * MOST + entry];
                    if (mate != NONE) {
                        having++;
                        saying += sets[book * MOST + mate] >> c & 1;
                    }
                }
                boolean own = (sets[entry] >> c & 1) != 0;
                if (2 * saying > having || 2 * saying == having && own) {
                    joined |= 1 << c;
                }
            }
            return joined;
        }
    }

    /** WHO the ENTRIES are, the OFFERS, and how both stand. */
    private static final class Poll {
        private static final int MOST_OFFERS = 20;
        private static final int FIRST_REACH = 6;
        private static final int GOOD = 0;
        private static final int NOBODY = 1;
        private static final int TWICE = 2;
        private static final int VOID = 6;
        private static final int WRONG_SET = 7;

        private final People people;
        private final Books books;
        private final Laws laws;

        private int reach = FIRST_REACH;
        /** Of each ENTRY of book 0 the PERSON that is least far, within REACH or not. */
        private final int[] nearest = new int[Books.MOST];
        private final int[] nearestFar = new int[Books.MOST];
        private final boolean[] sures = new boolean[Books.MOST];
        private final int[] spellingRow = new int[MOST_LETTERS + 1];

        private final int[] offerers = new int[MOST_OFFERS];
        private final int[] offerSets = new int[MOST_OFFERS];
        private final int[] offerMinutes = new int[MOST_OFFERS];
        private int offerCount;

        private final int[] sums = new int[CANDIDATES];

        Poll(People people, Books books, Laws laws) {
            this.people = people;
            this.books = books;
            this.laws = laws;
        }

        void reachTo(int much) {
            reach = much;
        }

        int personOf(int entry) {
            return nearestFar[entry] <= reach ? nearest[entry] : NONE;
        }

        boolean isSure(int entry) {
            return sures[entry];
        }

        boolean isTwice(int entry) {
            int person = personOf(entry);
            for (int i = 0; i < entry; i++) {
                if (person != NONE && personOf(i) == person) {
                    return true;
                }
            }
            return false;
        }

        void meetEntry(int entry) {
            nearest[entry] = NONE;
            nearestFar[entry] = MOST_REACH + 1;
            for (int p = 0; p < people.count; p++) {
                compare(entry, p);
            }
        }

        void meetPerson(int person) {
            for (int i = 0; i < books.counts[0]; i++) {
                compare(i, person);
            }
        }

        private void compare(int entry, int person) {
            int far = distance(entry, person);
            if (far < nearestFar[entry]) {
                nearestFar[entry] = far;
                nearest[entry] = person;
                sures[entry] = true;
            } else if (far == nearestFar[entry]) {
                sures[entry] = false;
            }
        }

        private int distance(int entry, int person) {
            int letters = lettersApart(books.names[entry], people.names[person], spellingRow);
            int trade = books.trades[entry];
            boolean unlike = trade != NONE && trade != people.trades[person];
            return Books.LETTER_COST * letters + (unlike ? Books.TRADE_COST : 0);
        }

        boolean offersFull() {
            return offerCount >= MOST_OFFERS;
        }

        boolean hasOffer(int offer) {
            return offer >= 0 && offer < offerCount;
        }

        int addOffer(int person, int set, int minute) {
            offerers[offerCount] = person;
            offerSets[offerCount] = set;
            offerMinutes[offerCount] = minute;
            offerCount++;
            return offerCount - 1;
        }

        int offerSet(int offer) {
            return offerSets[offer];
        }

        int entryStanding(int entry, int place, int day) {
            int person = personOf(entry);
            if (person == NONE) {
                return NOBODY;
            }
            if (isTwice(entry)) {
                return TWICE;
            }
            return judge(person, books.minutes[entry], books.joinedSet(entry), place, day);
        }

        private int judge(int person, int minute, int set, int place, int day) {
            laws.bring(person, place, day, minute);
            int right = laws.rightNow();
            if (right != 0) {
                // RIGHT 1, 2, 3 is STANDING 3, 4, 5
                return right + 2;
            }
            if (laws.voidNow()) {
                return VOID;
            }
            int many = Integer.bitCount(set);
            return many == 0 || many > laws.namesAt(place, day) ? WRONG_SET : GOOD;
        }

        /** Sums the GOOD ENTRIES up, and tells, as bits, the PERSONS that they are. */
        long countEntries(int place, int day) {
            Arrays.fill(sums, 0);
            long voted = 0;
            for (int i = 0; i < books.counts[0]; i++) {
                if (entryStanding(i, place, day) == GOOD) {
                    voted |= 1L << nearest[i];
                    addSet(sums, books.joinedSet(i), 1);
                }
            }
            return voted;
        }

        /** Sums the GOOD ones of the first OFFERS up too, and tells how the last of these stands. */
        int countOffers(long votedByEntries, int many, int place, int day) {
            long voted = votedByEntries;
            int found = GOOD;
            for (int i = 0; i < many && i < offerCount; i++) {
                int person = offerers[i];
                boolean again = (voted >> person & 1) != 0;
                found = again ? TWICE : judge(person, offerMinutes[i], offerSets[i], place, day);
                if (found == GOOD) {
                    voted |= 1L << person;
                    addSet(sums, offerSets[i], 1);
                }
            }
            return found;
        }
    }

    /** GROUNDS, and which sets of them turn the seat. */
    private static final class Grounds {
        private static final int MOST = 10;
        private static final int SEATS = 2;

        private final Books books;
        private final Poll poll;
        private final boolean[] puttingOn = new boolean[MOST];
        private final int[] whiches = new int[MOST];
        /** For each GROUND the set of those that cannot be with it. */
        private final int[] rivalSets = new int[MOST];
        private int count;
        private final int[] sums = new int[CANDIDATES];
        private final int[] base = new int[CANDIDATES];
        private int fewest;
        private int rivals;
        private int first;

        Grounds(Books books, Poll poll) {
            this.books = books;
            this.poll = poll;
        }

        boolean isFull() {
            return count >= MOST;
        }

        boolean has(int ground) {
            return ground >= 0 && ground < count;
        }

        boolean isTold(boolean on, int which) {
            for (int i = 0; i < count; i++) {
                if (puttingOn[i] == on && whiches[i] == which) {
                    return true;
                }
            }
            return false;
        }

        int add(boolean on, int which) {
            puttingOn[count] = on;
            whiches[count] = which;
            count++;
            return count - 1;
        }

        boolean areRivals(int a, int b) {
            return (rivalSets[a] >> b & 1) != 0;
        }

        void setRivals(int a, int b) {
            rivalSets[a] |= 1 << b;
            rivalSets[b] |= 1 << a;
        }

        boolean isSetOfThem(int set) {
            return set >= 0 && set < 1 << count;
        }

        /** WRITTEN of each CANDIDATE with a set of GROUNDS. */
        int[] countWith(int set) {
            countWritten();
            addGrounds(set);
            return sums;
        }

        private void countWritten() {
            for (int c = 0; c < CANDIDATES; c++) {
                base[c] = books.countJoined(c);
            }
        }

        private void addGrounds(int set) {
            System.arraycopy(base, 0, sums, 0, CANDIDATES);
            for (int g = 0; g < count; g++) {
                if ((set >> g & 1) != 0) {
                    int which = whiches[g];
                    int votes = puttingOn[g] ? poll.offerSet(which) : books.joinedSet(which);
                    addSet(sums, votes, puttingOn[g] ? 1 : -1);
                }
            }
        }

        private boolean canAllBe(int set) {
            for (int g = 0; g < count; g++) {
                if ((set >> g & 1) != 0 && (rivalSets[g] & set) != 0) {
                    return false;
                }
            }
            return true;
        }

        /** Whether any set turns the seat; fewest, rivals and first tell then of what does. */
        boolean search(int candidate) {
            countWritten();
            fewest = MOST + 1;
            for (int set = 0; set < 1 << count; set++) {
                int many = Integer.bitCount(set);
                if (many <= fewest && canAllBe(set) && seats(candidate, set)) {
                    if (many < fewest) {
                        fewest = many;
                        rivals = 0;
                        first = set;
                    }
                    rivals++;
                }
            }
            return fewest <= MOST;
        }

        private boolean seats(int candidate, int set) {
            addGrounds(set);
            return rankOf(sums, candidate) < SEATS;
        }

        int fewest() {
            return fewest;
        }

        int rivals() {
            return rivals;
        }

        int first() {
            return first;
        }
    }

    /** MEMBERS, and the BENCH drawn of them. */
    private static final class Jury {
        static final int MOST = 30;
        private static final long LOT_TIMES = 1103515245;
        private static final long LOT_PLUS = 12345;
        private static final long LOT_MASK = 2147483647;
        private static final long LOT_PART = 65536;

        private final int[] leans = new int[MOST];
        private final int[] kins = new int[MOST];
        private int count;
        private final int[] candidateKins = new int[CANDIDATES];
        private final int[] pool = new int[MOST];
        private final boolean[] drawn = new boolean[MOST];
        private final int[] bench = new int[MOST];
        private int benchCount;

        boolean isFull() {
            return count >= MOST;
        }

        int add(int lean, int kin) {
            leans[count] = lean;
            kins[count] = kin;
            count++;
            return count - 1;
        }

        void tellKin(int candidate, int kin) {
            candidateKins[candidate] = kin;
        }

        int benchSize() {
            return benchCount;
        }

        int benchAt(int k) {
            return bench[k];
        }

        int leanOfBench() {
            int lean = 0;
            for (int i = 0; i < benchCount; i++) {
                lean += leans[bench[i]];
            }
            return lean;
        }

        /** Whether there are so many to draw; if not, the BENCH stays. */
        boolean form(int n, int m, int seed) {
            int left = fillPool();
            if (left < n) {
                return false;
            }
            for (int i = 0; i < count; i++) {
                drawn[i] = false;
            }
            long lot = seed;
            for (int i = 0; i < n && left > 0; i++) {
                lot = LOT_TIMES * lot + LOT_PLUS & LOT_MASK;
                drawFromPool((int) (lot / LOT_PART % left), left);
                left--;
            }
            for (int i = 0; i < n - m; i++) {
                strikeOne(i % 2 == 0);
            }
            fillBench();
            return true;
        }

        private int fillPool() {
            int many = 0;
            for (int i = 0; i < count; i++) {
                if (!isKin(kins[i])) {
                    pool[many] = i;
                    many++;
                }
            }
            return many;
        }

        private boolean isKin(int kin) {
            for (int c = 0; c < CANDIDATES; c++) {
                if (kin != 0 && candidateKins[c] == kin) {
                    return true;
                }
            }
            return false;
        }

        private void drawFromPool(int place, int left) {
            drawn[pool[place]] = true;
            System.arraycopy(pool, place + 1, pool, place, left - place - 1);
        }

        private void strikeOne(boolean least) {
            int found = NONE;
            for (int i = 0; i < count; i++) {
                if (drawn[i]) {
                    boolean further = found == NONE || (least ? leans[i] < leans[found] : leans[i] > leans[found]);
                    found = further ? i : found;
                }
            }
            if (found != NONE) {
                drawn[found] = false;
            }
        }

        private void fillBench() {
            benchCount = 0;
            for (int i = 0; i < count; i++) {
                if (drawn[i]) {
                    bench[benchCount] = i;
                    benchCount++;
                }
            }
        }
    }

    /** MILES, and the COACHES that go out over them. */
    private static final class Roads {
        private static final int USUAL_MILES = 10;
        private static final int MOST_STOPS = PLACES - 1;
        private static final int STOP_SETS = 1 << MOST_STOPS;
        private static final int ENDLESS = 1000000;
        /** A cost is miles times this and coaches: fewest miles first, of like ones fewest coaches. */
        private static final int COACH_PART = 64;

        private final int[] miles = new int[PLACES * PLACES];
        private final int[] waiting = new int[PLACES];
        private final int[] stops = new int[MOST_STOPS];
        private final int[] loads = new int[STOP_SETS];
        /** The least miles out through a set of stops to the one that is last. */
        private final int[] outward = new int[STOP_SETS * MOST_STOPS];
        private final int[] tours = new int[STOP_SETS];
        private final int[] costs = new int[STOP_SETS];
        private int stopCount;
        private int sent = NONE;

        Roads() {
            Arrays.fill(miles, USUAL_MILES);
        }

        void setMiles(int a, int b, int much) {
            miles[a * PLACES + b] = much;
            miles[b * PLACES + a] = much;
        }

        void setWaiting(int place, int many) {
            waiting[place] = many;
        }

        int coachesSent() {
            return sent;
        }

        /** LEAST miles for those who wait. */
        int send(int home, int room) {
            int all = 0;
            int many = 0;
            stopCount = 0;
            for (int p = 0; p < PLACES; p++) {
                int full = waiting[p] > room && room > 0 ? waiting[p] / room : 0;
                all += full * 2 * miles[home * PLACES + p];
                many += full;
                waiting[p] -= full * room;
                if (waiting[p] > 0 && stopCount < MOST_STOPS) {
                    stops[stopCount] = p;
                    stopCount++;
                }
            }
            fillLoads();
            fillOutward(home);
            fillTours(home);
            int rest = shareOut(room);
            sent = many + rest % COACH_PART;
            return all + rest / COACH_PART;
        }

        private void fillLoads() {
            for (int set = 0; set < 1 << stopCount; set++) {
                loads[set] = 0;
                for (int s = 0; s < stopCount; s++) {
                    loads[set] += (set >> s & 1) * waiting[stops[s]];
                }
            }
        }

        private void fillOutward(int home) {
            for (int set = 1; set < 1 << stopCount; set++) {
                for (int last = 0; last < stopCount; last++) {
                    if ((set >> last & 1) != 0) {
                        outward[set * MOST_STOPS + last] = shortestTo(home, set, last);
                    }
                }
            }
        }

        private int shortestTo(int home, int set, int last) {
            int before = set & ~(1 << last);
            int least = before == 0 ? miles[home * PLACES + stops[last]] : ENDLESS;
            for (int s = 0; s < stopCount; s++) {
                if ((before >> s & 1) != 0) {
                    int step = miles[stops[s] * PLACES + stops[last]];
                    least = Math.min(least, outward[before * MOST_STOPS + s] + step);
                }
            }
            return least;
        }

        private void fillTours(int home) {
            for (int set = 1; set < 1 << stopCount; set++) {
                tours[set] = ENDLESS;
                for (int last = 0; last < stopCount; last++) {
                    if ((set >> last & 1) != 0) {
                        int back = miles[stops[last] * PLACES + home];
                        tours[set] = Math.min(tours[set], outward[set * MOST_STOPS + last] + back);
                    }
                }
            }
        }

        /** The least cost of all stops: one coach takes the lowest of a set, with some of the others. */
        private int shareOut(int room) {
            costs[0] = 0;
            int all = (1 << stopCount) - 1;
            for (int set = 1; set <= all; set++) {
                int lowest = set & -set;
                costs[set] = ENDLESS * COACH_PART;
                for (int taken = set; taken > 0; taken = taken - 1 & set) {
                    if ((taken & lowest) != 0 && loads[taken] <= room) {
                        int cost = tours[taken] * COACH_PART + 1 + costs[set & ~taken];
                        costs[set] = Math.min(costs[set], cost);
                    }
                }
            }
            return costs[all];
        }
    }
}
